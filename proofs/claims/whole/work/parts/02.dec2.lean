theorem dX11_paysLeavers_45 : decode cX11_paysLeavers 45 = .ok (.laload, 1) := by decide +kernel
theorem dX11_paysLeavers_46 : decode cX11_paysLeavers 46 = .ok (.lconst 0, 1) := by decide +kernel
theorem dX11_paysLeavers_47 : decode cX11_paysLeavers 47 = .ok (.lcmp, 1) := by decide +kernel
theorem dX11_paysLeavers_48 : decode cX11_paysLeavers 48 = .ok (.ifCond .ge 95, 3) := by decide +kernel
theorem dX11_paysLeavers_51 : decode cX11_paysLeavers 51 = .ok (.aload_n 0, 1) := by decide +kernel
theorem dX11_paysLeavers_52 : decode cX11_paysLeavers 52 = .ok (.getfield 66, 3) := by decide +kernel
theorem dX11_paysLeavers_55 : decode cX11_paysLeavers 55 = .ok (.iload_n 3, 1) := by decide +kernel
theorem dX11_paysLeavers_56 : decode cX11_paysLeavers 56 = .ok (.iaload, 1) := by decide +kernel
theorem dX11_paysLeavers_57 : decode cX11_paysLeavers 57 = .ok (.aload_n 0, 1) := by decide +kernel
theorem dX11_paysLeavers_58 : decode cX11_paysLeavers 58 = .ok (.getfield 13, 3) := by decide +kernel
theorem dX11_paysLeavers_61 : decode cX11_paysLeavers 61 = .ok (.iload_n 1, 1) := by decide +kernel
theorem dX11_paysLeavers_62 : decode cX11_paysLeavers 62 = .ok (.iaload, 1) := by decide +kernel
theorem dX11_paysLeavers_63 : decode cX11_paysLeavers 63 = .ok (.if_icmp .le 6, 3) := by decide +kernel
theorem dX11_paysLeavers_66 : decode cX11_paysLeavers 66 = .ok (.goto 77, 3) := by decide +kernel
theorem dX11_paysLeavers_69 : decode cX11_paysLeavers 69 = .ok (.aload_n 0, 1) := by decide +kernel
theorem dX11_paysLeavers_70 : decode cX11_paysLeavers 70 = .ok (.getfield 25, 3) := by decide +kernel
theorem dX11_paysLeavers_73 : decode cX11_paysLeavers 73 = .ok (.iload_n 1, 1) := by decide +kernel
theorem dX11_paysLeavers_74 : decode cX11_paysLeavers 74 = .ok (.laload, 1) := by decide +kernel
theorem dX11_paysLeavers_75 : decode cX11_paysLeavers 75 = .ok (.aload_n 0, 1) := by decide +kernel
theorem dX11_paysLeavers_76 : decode cX11_paysLeavers 76 = .ok (.getfield 87, 3) := by decide +kernel
theorem dX11_paysLeavers_79 : decode cX11_paysLeavers 79 = .ok (.iload_n 3, 1) := by decide +kernel
theorem dX11_paysLeavers_80 : decode cX11_paysLeavers 80 = .ok (.laload, 1) := by decide +kernel
theorem dX11_paysLeavers_81 : decode cX11_paysLeavers 81 = .ok (.lcmp, 1) := by decide +kernel
theorem dX11_paysLeavers_82 : decode cX11_paysLeavers 82 = .ok (.ifCond .ge 4, 3) := by decide +kernel
theorem dX11_paysLeavers_85 : decode cX11_paysLeavers 85 = .ok (.return_, 1) := by decide +kernel
theorem dX11_paysLeavers_86 : decode cX11_paysLeavers 86 = .ok (.aload_n 0, 1) := by decide +kernel
theorem dX11_paysLeavers_87 : decode cX11_paysLeavers 87 = .ok (.getfield 25, 3) := by decide +kernel
theorem dX11_paysLeavers_90 : decode cX11_paysLeavers 90 = .ok (.iload_n 1, 1) := by decide +kernel
theorem dX11_paysLeavers_91 : decode cX11_paysLeavers 91 = .ok (.aload_n 0, 1) := by decide +kernel
theorem dX11_paysLeavers_92 : decode cX11_paysLeavers 92 = .ok (.getfield 25, 3) := by decide +kernel
theorem dX11_paysLeavers_95 : decode cX11_paysLeavers 95 = .ok (.iload_n 1, 1) := by decide +kernel
theorem dX11_paysLeavers_96 : decode cX11_paysLeavers 96 = .ok (.laload, 1) := by decide +kernel
theorem dX11_paysLeavers_97 : decode cX11_paysLeavers 97 = .ok (.aload_n 0, 1) := by decide +kernel
theorem dX11_paysLeavers_98 : decode cX11_paysLeavers 98 = .ok (.getfield 87, 3) := by decide +kernel
theorem dX11_paysLeavers_101 : decode cX11_paysLeavers 101 = .ok (.iload_n 3, 1) := by decide +kernel
theorem dX11_paysLeavers_102 : decode cX11_paysLeavers 102 = .ok (.laload, 1) := by decide +kernel
theorem dX11_paysLeavers_103 : decode cX11_paysLeavers 103 = .ok (.lsub, 1) := by decide +kernel
theorem dX11_paysLeavers_104 : decode cX11_paysLeavers 104 = .ok (.lastore, 1) := by decide +kernel
theorem dX11_paysLeavers_105 : decode cX11_paysLeavers 105 = .ok (.aload_n 0, 1) := by decide +kernel
theorem dX11_paysLeavers_106 : decode cX11_paysLeavers 106 = .ok (.getfield 35, 3) := by decide +kernel
theorem dX11_paysLeavers_109 : decode cX11_paysLeavers 109 = .ok (.iload_n 1, 1) := by decide +kernel
theorem dX11_paysLeavers_110 : decode cX11_paysLeavers 110 = .ok (.aload_n 0, 1) := by decide +kernel
theorem dX11_paysLeavers_111 : decode cX11_paysLeavers 111 = .ok (.getfield 35, 3) := by decide +kernel
theorem dX11_paysLeavers_114 : decode cX11_paysLeavers 114 = .ok (.iload_n 1, 1) := by decide +kernel
theorem dX11_paysLeavers_115 : decode cX11_paysLeavers 115 = .ok (.laload, 1) := by decide +kernel
theorem dX11_paysLeavers_116 : decode cX11_paysLeavers 116 = .ok (.aload_n 0, 1) := by decide +kernel
theorem dX11_paysLeavers_117 : decode cX11_paysLeavers 117 = .ok (.getfield 87, 3) := by decide +kernel
theorem dX11_paysLeavers_120 : decode cX11_paysLeavers 120 = .ok (.iload_n 3, 1) := by decide +kernel
theorem dX11_paysLeavers_121 : decode cX11_paysLeavers 121 = .ok (.laload, 1) := by decide +kernel
theorem dX11_paysLeavers_122 : decode cX11_paysLeavers 122 = .ok (.ladd, 1) := by decide +kernel
theorem dX11_paysLeavers_123 : decode cX11_paysLeavers 123 = .ok (.lastore, 1) := by decide +kernel
theorem dX11_paysLeavers_124 : decode cX11_paysLeavers 124 = .ok (.aload_n 0, 1) := by decide +kernel
theorem dX11_paysLeavers_125 : decode cX11_paysLeavers 125 = .ok (.getfield 90, 3) := by decide +kernel
theorem dX11_paysLeavers_128 : decode cX11_paysLeavers 128 = .ok (.iload_n 3, 1) := by decide +kernel
theorem dX11_paysLeavers_129 : decode cX11_paysLeavers 129 = .ok (.aload_n 0, 1) := by decide +kernel
theorem dX11_paysLeavers_130 : decode cX11_paysLeavers 130 = .ok (.getfield 87, 3) := by decide +kernel
theorem dX11_paysLeavers_133 : decode cX11_paysLeavers 133 = .ok (.iload_n 3, 1) := by decide +kernel
theorem dX11_paysLeavers_134 : decode cX11_paysLeavers 134 = .ok (.laload, 1) := by decide +kernel
theorem dX11_paysLeavers_135 : decode cX11_paysLeavers 135 = .ok (.lastore, 1) := by decide +kernel
theorem dX11_paysLeavers_136 : decode cX11_paysLeavers 136 = .ok (.aload_n 0, 1) := by decide +kernel
theorem dX11_paysLeavers_137 : decode cX11_paysLeavers 137 = .ok (.getfield 87, 3) := by decide +kernel
theorem dX11_paysLeavers_140 : decode cX11_paysLeavers 140 = .ok (.iload_n 3, 1) := by decide +kernel
theorem dX11_paysLeavers_141 : decode cX11_paysLeavers 141 = .ok (.lconst 0, 1) := by decide +kernel
theorem dX11_paysLeavers_142 : decode cX11_paysLeavers 142 = .ok (.lastore, 1) := by decide +kernel
theorem dX11_paysLeavers_143 : decode cX11_paysLeavers 143 = .ok (.iinc 2 1, 3) := by decide +kernel
theorem dX11_paysLeavers_146 : decode cX11_paysLeavers 146 = .ok (.goto (-144), 3) := by decide +kernel
theorem dX11_paysLeavers_149 : decode cX11_paysLeavers 149 = .ok (.return_, 1) := by decide +kernel
theorem dX11_isUnderWork_0 : decode cX11_isUnderWork 0 = .ok (.aload_n 0, 1) := by decide +kernel
theorem dX11_isUnderWork_1 : decode cX11_isUnderWork 1 = .ok (.getfield 99, 3) := by decide +kernel
theorem dX11_isUnderWork_4 : decode cX11_isUnderWork 4 = .ok (.iload_n 1, 1) := by decide +kernel
theorem dX11_isUnderWork_5 : decode cX11_isUnderWork 5 = .ok (.baload, 1) := by decide +kernel
theorem dX11_isUnderWork_6 : decode cX11_isUnderWork 6 = .ok (.ifCond .eq 22, 3) := by decide +kernel
theorem dX11_isUnderWork_9 : decode cX11_isUnderWork 9 = .ok (.aload_n 0, 1) := by decide +kernel
theorem dX11_isUnderWork_10 : decode cX11_isUnderWork 10 = .ok (.getfield 57, 3) := by decide +kernel
theorem dX11_isUnderWork_13 : decode cX11_isUnderWork 13 = .ok (.iload_n 1, 1) := by decide +kernel
theorem dX11_isUnderWork_14 : decode cX11_isUnderWork 14 = .ok (.iaload, 1) := by decide +kernel
theorem dX11_isUnderWork_15 : decode cX11_isUnderWork 15 = .ok (.aload_n 0, 1) := by decide +kernel
theorem dX11_isUnderWork_16 : decode cX11_isUnderWork 16 = .ok (.getfield 54, 3) := by decide +kernel
theorem dX11_isUnderWork_19 : decode cX11_isUnderWork 19 = .ok (.iload_n 1, 1) := by decide +kernel
theorem dX11_isUnderWork_20 : decode cX11_isUnderWork 20 = .ok (.iaload, 1) := by decide +kernel
theorem dX11_isUnderWork_21 : decode cX11_isUnderWork 21 = .ok (.if_icmp .ge 7, 3) := by decide +kernel
theorem dX11_isUnderWork_24 : decode cX11_isUnderWork 24 = .ok (.iconst 1, 1) := by decide +kernel
theorem dX11_isUnderWork_25 : decode cX11_isUnderWork 25 = .ok (.goto 4, 3) := by decide +kernel
theorem dX11_isUnderWork_28 : decode cX11_isUnderWork 28 = .ok (.iconst 0, 1) := by decide +kernel
theorem dX11_isUnderWork_29 : decode cX11_isUnderWork 29 = .ok (.ireturn, 1) := by decide +kernel
theorem dX11_paysStages_0 : decode cX11_paysStages 0 = .ok (.iconst 0, 1) := by decide +kernel
theorem dX11_paysStages_1 : decode cX11_paysStages 1 = .ok (.istore_n 2, 1) := by decide +kernel
theorem dX11_paysStages_2 : decode cX11_paysStages 2 = .ok (.iload_n 2, 1) := by decide +kernel
theorem dX11_paysStages_3 : decode cX11_paysStages 3 = .ok (.aload_n 0, 1) := by decide +kernel
theorem dX11_paysStages_4 : decode cX11_paysStages 4 = .ok (.getfield 7, 3) := by decide +kernel
theorem dX11_paysStages_7 : decode cX11_paysStages 7 = .ok (.iload_n 1, 1) := by decide +kernel
theorem dX11_paysStages_8 : decode cX11_paysStages 8 = .ok (.iaload, 1) := by decide +kernel
theorem dX11_paysStages_9 : decode cX11_paysStages 9 = .ok (.if_icmp .ge 132, 3) := by decide +kernel
theorem dX11_paysStages_12 : decode cX11_paysStages 12 = .ok (.bipush 12, 2) := by decide +kernel
theorem dX11_paysStages_14 : decode cX11_paysStages 14 = .ok (.iload_n 1, 1) := by decide +kernel
theorem dX11_paysStages_15 : decode cX11_paysStages 15 = .ok (.imul, 1) := by decide +kernel
theorem dX11_paysStages_16 : decode cX11_paysStages 16 = .ok (.iload_n 2, 1) := by decide +kernel
theorem dX11_paysStages_17 : decode cX11_paysStages 17 = .ok (.iadd, 1) := by decide +kernel
theorem dX11_paysStages_18 : decode cX11_paysStages 18 = .ok (.istore_n 3, 1) := by decide +kernel
theorem dX11_paysStages_19 : decode cX11_paysStages 19 = .ok (.aload_n 0, 1) := by decide +kernel
theorem dX11_paysStages_20 : decode cX11_paysStages 20 = .ok (.iload_n 3, 1) := by decide +kernel
theorem dX11_paysStages_21 : decode cX11_paysStages 21 = .ok (.invokevirtual 135, 3) := by decide +kernel
theorem dX11_paysStages_24 : decode cX11_paysStages 24 = .ok (.ifCond .eq 111, 3) := by decide +kernel
theorem dX11_paysStages_27 : decode cX11_paysStages 27 = .ok (.aload_n 0, 1) := by decide +kernel
theorem dX11_paysStages_28 : decode cX11_paysStages 28 = .ok (.getfield 84, 3) := by decide +kernel
theorem dX11_paysStages_31 : decode cX11_paysStages 31 = .ok (.iload_n 3, 1) := by decide +kernel
theorem dX11_paysStages_32 : decode cX11_paysStages 32 = .ok (.laload, 1) := by decide +kernel
theorem dX11_paysStages_33 : decode cX11_paysStages 33 = .ok (.lconst 0, 1) := by decide +kernel
theorem dX11_paysStages_34 : decode cX11_paysStages 34 = .ok (.lcmp, 1) := by decide +kernel
theorem dX11_paysStages_35 : decode cX11_paysStages 35 = .ok (.ifCond .gt 100, 3) := by decide +kernel
theorem dX11_paysStages_38 : decode cX11_paysStages 38 = .ok (.aload_n 0, 1) := by decide +kernel
theorem dX11_paysStages_39 : decode cX11_paysStages 39 = .ok (.getfield 102, 3) := by decide +kernel
theorem dX11_paysStages_42 : decode cX11_paysStages 42 = .ok (.iload_n 3, 1) := by decide +kernel
theorem dX11_paysStages_43 : decode cX11_paysStages 43 = .ok (.baload, 1) := by decide +kernel
theorem dX11_paysStages_44 : decode cX11_paysStages 44 = .ok (.ifCond .ne 6, 3) := by decide +kernel
theorem dX11_paysStages_47 : decode cX11_paysStages 47 = .ok (.goto 88, 3) := by decide +kernel
theorem dX11_paysStages_50 : decode cX11_paysStages 50 = .ok (.aload_n 0, 1) := by decide +kernel
theorem dX11_paysStages_51 : decode cX11_paysStages 51 = .ok (.getfield 57, 3) := by decide +kernel
theorem dX11_paysStages_54 : decode cX11_paysStages 54 = .ok (.iload_n 3, 1) := by decide +kernel
theorem dX11_paysStages_55 : decode cX11_paysStages 55 = .ok (.iaload, 1) := by decide +kernel
theorem dX11_paysStages_56 : decode cX11_paysStages 56 = .ok (.iconst 1, 1) := by decide +kernel
theorem dX11_paysStages_57 : decode cX11_paysStages 57 = .ok (.iadd, 1) := by decide +kernel
theorem dX11_paysStages_58 : decode cX11_paysStages 58 = .ok (.aload_n 0, 1) := by decide +kernel
theorem dX11_paysStages_59 : decode cX11_paysStages 59 = .ok (.getfield 54, 3) := by decide +kernel
theorem dX11_paysStages_62 : decode cX11_paysStages 62 = .ok (.iload_n 3, 1) := by decide +kernel
theorem dX11_paysStages_63 : decode cX11_paysStages 63 = .ok (.iaload, 1) := by decide +kernel
theorem dX11_paysStages_64 : decode cX11_paysStages 64 = .ok (.if_icmp .ne 12, 3) := by decide +kernel
theorem dX11_paysStages_67 : decode cX11_paysStages 67 = .ok (.aload_n 0, 1) := by decide +kernel
theorem dX11_paysStages_68 : decode cX11_paysStages 68 = .ok (.getfield 81, 3) := by decide +kernel
theorem dX11_paysStages_71 : decode cX11_paysStages 71 = .ok (.iload_n 3, 1) := by decide +kernel
theorem dX11_paysStages_72 : decode cX11_paysStages 72 = .ok (.laload, 1) := by decide +kernel
theorem dX11_paysStages_73 : decode cX11_paysStages 73 = .ok (.goto 9, 3) := by decide +kernel
theorem dX11_paysStages_76 : decode cX11_paysStages 76 = .ok (.aload_n 0, 1) := by decide +kernel
theorem dX11_paysStages_77 : decode cX11_paysStages 77 = .ok (.getfield 93, 3) := by decide +kernel
theorem dX11_paysStages_80 : decode cX11_paysStages 80 = .ok (.iload_n 3, 1) := by decide +kernel
theorem dX11_paysStages_81 : decode cX11_paysStages 81 = .ok (.laload, 1) := by decide +kernel
theorem dX11_paysStages_82 : decode cX11_paysStages 82 = .ok (.lstore 4, 2) := by decide +kernel
theorem dX11_paysStages_84 : decode cX11_paysStages 84 = .ok (.aload_n 0, 1) := by decide +kernel
theorem dX11_paysStages_85 : decode cX11_paysStages 85 = .ok (.getfield 81, 3) := by decide +kernel
theorem dX11_paysStages_88 : decode cX11_paysStages 88 = .ok (.iload_n 3, 1) := by decide +kernel
theorem dX11_paysStages_89 : decode cX11_paysStages 89 = .ok (.aload_n 0, 1) := by decide +kernel
theorem dX11_paysStages_90 : decode cX11_paysStages 90 = .ok (.getfield 81, 3) := by decide +kernel
theorem dX11_paysStages_93 : decode cX11_paysStages 93 = .ok (.iload_n 3, 1) := by decide +kernel
theorem dX11_paysStages_94 : decode cX11_paysStages 94 = .ok (.laload, 1) := by decide +kernel
theorem dX11_paysStages_95 : decode cX11_paysStages 95 = .ok (.lload 4, 2) := by decide +kernel
theorem dX11_paysStages_97 : decode cX11_paysStages 97 = .ok (.lsub, 1) := by decide +kernel
theorem dX11_paysStages_98 : decode cX11_paysStages 98 = .ok (.lastore, 1) := by decide +kernel
theorem dX11_paysStages_99 : decode cX11_paysStages 99 = .ok (.aload_n 0, 1) := by decide +kernel
theorem dX11_paysStages_100 : decode cX11_paysStages 100 = .ok (.getfield 29, 3) := by decide +kernel
theorem dX11_paysStages_103 : decode cX11_paysStages 103 = .ok (.iload_n 1, 1) := by decide +kernel
theorem dX11_paysStages_104 : decode cX11_paysStages 104 = .ok (.aload_n 0, 1) := by decide +kernel
theorem dX11_paysStages_105 : decode cX11_paysStages 105 = .ok (.getfield 29, 3) := by decide +kernel
theorem dX11_paysStages_108 : decode cX11_paysStages 108 = .ok (.iload_n 1, 1) := by decide +kernel
theorem dX11_paysStages_109 : decode cX11_paysStages 109 = .ok (.laload, 1) := by decide +kernel
theorem dX11_paysStages_110 : decode cX11_paysStages 110 = .ok (.lload 4, 2) := by decide +kernel
theorem dX11_paysStages_112 : decode cX11_paysStages 112 = .ok (.ladd, 1) := by decide +kernel
theorem dX11_paysStages_113 : decode cX11_paysStages 113 = .ok (.lastore, 1) := by decide +kernel
theorem dX11_paysStages_114 : decode cX11_paysStages 114 = .ok (.aload_n 0, 1) := by decide +kernel
theorem dX11_paysStages_115 : decode cX11_paysStages 115 = .ok (.getfield 57, 3) := by decide +kernel
theorem dX11_paysStages_118 : decode cX11_paysStages 118 = .ok (.iload_n 3, 1) := by decide +kernel
theorem dX11_paysStages_119 : decode cX11_paysStages 119 = .ok (.aload_n 0, 1) := by decide +kernel
theorem dX11_paysStages_120 : decode cX11_paysStages 120 = .ok (.getfield 57, 3) := by decide +kernel
theorem dX11_paysStages_123 : decode cX11_paysStages 123 = .ok (.iload_n 3, 1) := by decide +kernel
theorem dX11_paysStages_124 : decode cX11_paysStages 124 = .ok (.iaload, 1) := by decide +kernel
theorem dX11_paysStages_125 : decode cX11_paysStages 125 = .ok (.iconst 1, 1) := by decide +kernel
theorem dX11_paysStages_126 : decode cX11_paysStages 126 = .ok (.iadd, 1) := by decide +kernel
theorem dX11_paysStages_127 : decode cX11_paysStages 127 = .ok (.iastore, 1) := by decide +kernel
theorem dX11_paysStages_128 : decode cX11_paysStages 128 = .ok (.aload_n 0, 1) := by decide +kernel
theorem dX11_paysStages_129 : decode cX11_paysStages 129 = .ok (.getfield 102, 3) := by decide +kernel
theorem dX11_paysStages_132 : decode cX11_paysStages 132 = .ok (.iload_n 3, 1) := by decide +kernel
theorem dX11_paysStages_133 : decode cX11_paysStages 133 = .ok (.iconst 0, 1) := by decide +kernel
theorem dX11_paysStages_134 : decode cX11_paysStages 134 = .ok (.bastore, 1) := by decide +kernel
theorem dX11_paysStages_135 : decode cX11_paysStages 135 = .ok (.iinc 2 1, 3) := by decide +kernel
theorem dX11_paysStages_138 : decode cX11_paysStages 138 = .ok (.goto (-136), 3) := by decide +kernel
theorem dX11_paysStages_141 : decode cX11_paysStages 141 = .ok (.return_, 1) := by decide +kernel
theorem dX11_mayHave_0 : decode cX11_mayHave 0 = .ok (.aload_n 0, 1) := by decide +kernel
theorem dX11_mayHave_1 : decode cX11_mayHave 1 = .ok (.getfield 96, 3) := by decide +kernel
theorem dX11_mayHave_4 : decode cX11_mayHave 4 = .ok (.iload_n 1, 1) := by decide +kernel
theorem dX11_mayHave_5 : decode cX11_mayHave 5 = .ok (.baload, 1) := by decide +kernel
theorem dX11_mayHave_6 : decode cX11_mayHave 6 = .ok (.ifCond .eq 27, 3) := by decide +kernel
theorem dX11_mayHave_9 : decode cX11_mayHave 9 = .ok (.aload_n 0, 1) := by decide +kernel
theorem dX11_mayHave_10 : decode cX11_mayHave 10 = .ok (.getfield 99, 3) := by decide +kernel
theorem dX11_mayHave_13 : decode cX11_mayHave 13 = .ok (.iload_n 1, 1) := by decide +kernel
theorem dX11_mayHave_14 : decode cX11_mayHave 14 = .ok (.baload, 1) := by decide +kernel
theorem dX11_mayHave_15 : decode cX11_mayHave 15 = .ok (.ifCond .ne 18, 3) := by decide +kernel
theorem dX11_mayHave_18 : decode cX11_mayHave 18 = .ok (.aload_n 0, 1) := by decide +kernel
theorem dX11_mayHave_19 : decode cX11_mayHave 19 = .ok (.getfield 75, 3) := by decide +kernel
theorem dX11_mayHave_22 : decode cX11_mayHave 22 = .ok (.iload_n 1, 1) := by decide +kernel
theorem dX11_mayHave_23 : decode cX11_mayHave 23 = .ok (.laload, 1) := by decide +kernel
theorem dX11_mayHave_24 : decode cX11_mayHave 24 = .ok (.lconst 0, 1) := by decide +kernel
theorem dX11_mayHave_25 : decode cX11_mayHave 25 = .ok (.lcmp, 1) := by decide +kernel
theorem dX11_mayHave_26 : decode cX11_mayHave 26 = .ok (.ifCond .ne 7, 3) := by decide +kernel
theorem dX11_mayHave_29 : decode cX11_mayHave 29 = .ok (.iconst 1, 1) := by decide +kernel
theorem dX11_mayHave_30 : decode cX11_mayHave 30 = .ok (.goto 4, 3) := by decide +kernel
theorem dX11_mayHave_33 : decode cX11_mayHave 33 = .ok (.iconst 0, 1) := by decide +kernel
theorem dX11_mayHave_34 : decode cX11_mayHave 34 = .ok (.ireturn, 1) := by decide +kernel
theorem dX11_sharesOf_0 : decode cX11_sharesOf 0 = .ok (.iconst 0, 1) := by decide +kernel
theorem dX11_sharesOf_1 : decode cX11_sharesOf 1 = .ok (.istore_n 3, 1) := by decide +kernel
theorem dX11_sharesOf_2 : decode cX11_sharesOf 2 = .ok (.iconst 0, 1) := by decide +kernel
theorem dX11_sharesOf_3 : decode cX11_sharesOf 3 = .ok (.istore 4, 2) := by decide +kernel
theorem dX11_sharesOf_5 : decode cX11_sharesOf 5 = .ok (.iload 4, 2) := by decide +kernel
theorem dX11_sharesOf_7 : decode cX11_sharesOf 7 = .ok (.aload_n 0, 1) := by decide +kernel
theorem dX11_sharesOf_8 : decode cX11_sharesOf 8 = .ok (.getfield 7, 3) := by decide +kernel
theorem dX11_sharesOf_11 : decode cX11_sharesOf 11 = .ok (.iload_n 1, 1) := by decide +kernel
theorem dX11_sharesOf_12 : decode cX11_sharesOf 12 = .ok (.iaload, 1) := by decide +kernel
theorem dX11_sharesOf_13 : decode cX11_sharesOf 13 = .ok (.if_icmp .ge 69, 3) := by decide +kernel
theorem dX11_sharesOf_16 : decode cX11_sharesOf 16 = .ok (.bipush 12, 2) := by decide +kernel
theorem dX11_sharesOf_18 : decode cX11_sharesOf 18 = .ok (.iload_n 1, 1) := by decide +kernel
theorem dX11_sharesOf_19 : decode cX11_sharesOf 19 = .ok (.imul, 1) := by decide +kernel
theorem dX11_sharesOf_20 : decode cX11_sharesOf 20 = .ok (.iload 4, 2) := by decide +kernel
theorem dX11_sharesOf_22 : decode cX11_sharesOf 22 = .ok (.iadd, 1) := by decide +kernel
theorem dX11_sharesOf_23 : decode cX11_sharesOf 23 = .ok (.istore 5, 2) := by decide +kernel
theorem dX11_sharesOf_25 : decode cX11_sharesOf 25 = .ok (.iload_n 3, 1) := by decide +kernel
theorem dX11_sharesOf_26 : decode cX11_sharesOf 26 = .ok (.iload_n 2, 1) := by decide +kernel
theorem dX11_sharesOf_27 : decode cX11_sharesOf 27 = .ok (.ifCond .eq 26, 3) := by decide +kernel
theorem dX11_sharesOf_30 : decode cX11_sharesOf 30 = .ok (.aload_n 0, 1) := by decide +kernel
theorem dX11_sharesOf_31 : decode cX11_sharesOf 31 = .ok (.iload 5, 2) := by decide +kernel
theorem dX11_sharesOf_33 : decode cX11_sharesOf 33 = .ok (.invokevirtual 139, 3) := by decide +kernel
theorem dX11_sharesOf_36 : decode cX11_sharesOf 36 = .ok (.ifCond .eq 13, 3) := by decide +kernel
theorem dX11_sharesOf_39 : decode cX11_sharesOf 39 = .ok (.aload_n 0, 1) := by decide +kernel
theorem dX11_sharesOf_40 : decode cX11_sharesOf 40 = .ok (.getfield 51, 3) := by decide +kernel
theorem dX11_sharesOf_43 : decode cX11_sharesOf 43 = .ok (.iload 5, 2) := by decide +kernel
theorem dX11_sharesOf_45 : decode cX11_sharesOf 45 = .ok (.iaload, 1) := by decide +kernel
theorem dX11_sharesOf_46 : decode cX11_sharesOf 46 = .ok (.goto 28, 3) := by decide +kernel
theorem dX11_sharesOf_49 : decode cX11_sharesOf 49 = .ok (.iconst 0, 1) := by decide +kernel
theorem dX11_sharesOf_50 : decode cX11_sharesOf 50 = .ok (.goto 24, 3) := by decide +kernel
theorem dX11_sharesOf_53 : decode cX11_sharesOf 53 = .ok (.aload_n 0, 1) := by decide +kernel
theorem dX11_sharesOf_54 : decode cX11_sharesOf 54 = .ok (.getfield 96, 3) := by decide +kernel
theorem dX11_sharesOf_57 : decode cX11_sharesOf 57 = .ok (.iload 5, 2) := by decide +kernel
theorem dX11_sharesOf_59 : decode cX11_sharesOf 59 = .ok (.baload, 1) := by decide +kernel
theorem dX11_sharesOf_60 : decode cX11_sharesOf 60 = .ok (.ifCond .eq 13, 3) := by decide +kernel
theorem dX11_sharesOf_63 : decode cX11_sharesOf 63 = .ok (.aload_n 0, 1) := by decide +kernel
theorem dX11_sharesOf_64 : decode cX11_sharesOf 64 = .ok (.getfield 51, 3) := by decide +kernel
theorem dX11_sharesOf_67 : decode cX11_sharesOf 67 = .ok (.iload 5, 2) := by decide +kernel
theorem dX11_sharesOf_69 : decode cX11_sharesOf 69 = .ok (.iaload, 1) := by decide +kernel
theorem dX11_sharesOf_70 : decode cX11_sharesOf 70 = .ok (.goto 4, 3) := by decide +kernel
theorem dX11_sharesOf_73 : decode cX11_sharesOf 73 = .ok (.iconst 0, 1) := by decide +kernel
theorem dX11_sharesOf_74 : decode cX11_sharesOf 74 = .ok (.iadd, 1) := by decide +kernel
theorem dX11_sharesOf_75 : decode cX11_sharesOf 75 = .ok (.istore_n 3, 1) := by decide +kernel
theorem dX11_sharesOf_76 : decode cX11_sharesOf 76 = .ok (.iinc 4 1, 3) := by decide +kernel
theorem dX11_sharesOf_79 : decode cX11_sharesOf 79 = .ok (.goto (-74), 3) := by decide +kernel
theorem dX11_sharesOf_82 : decode cX11_sharesOf 82 = .ok (.iload_n 3, 1) := by decide +kernel
theorem dX11_sharesOf_83 : decode cX11_sharesOf 83 = .ok (.ireturn, 1) := by decide +kernel
theorem dX11_bidOf_0 : decode cX11_bidOf 0 = .ok (.aload_n 0, 1) := by decide +kernel
theorem dX11_bidOf_1 : decode cX11_bidOf 1 = .ok (.getfield 41, 3) := by decide +kernel
theorem dX11_bidOf_4 : decode cX11_bidOf 4 = .ok (.bipush 8, 2) := by decide +kernel
theorem dX11_bidOf_6 : decode cX11_bidOf 6 = .ok (.iload_n 1, 1) := by decide +kernel
theorem dX11_bidOf_7 : decode cX11_bidOf 7 = .ok (.imul, 1) := by decide +kernel
theorem dX11_bidOf_8 : decode cX11_bidOf 8 = .ok (.iconst 3, 1) := by decide +kernel
theorem dX11_bidOf_9 : decode cX11_bidOf 9 = .ok (.iadd, 1) := by decide +kernel
theorem dX11_bidOf_10 : decode cX11_bidOf 10 = .ok (.iaload, 1) := by decide +kernel
theorem dX11_bidOf_11 : decode cX11_bidOf 11 = .ok (.iconst 2, 1) := by decide +kernel
theorem dX11_bidOf_12 : decode cX11_bidOf 12 = .ok (.idiv, 1) := by decide +kernel
theorem dX11_bidOf_13 : decode cX11_bidOf 13 = .ok (.istore_n 3, 1) := by decide +kernel
theorem dX11_bidOf_14 : decode cX11_bidOf 14 = .ok (.aload_n 0, 1) := by decide +kernel
theorem dX11_bidOf_15 : decode cX11_bidOf 15 = .ok (.getfield 63, 3) := by decide +kernel
theorem dX11_bidOf_18 : decode cX11_bidOf 18 = .ok (.iload_n 2, 1) := by decide +kernel
theorem dX11_bidOf_19 : decode cX11_bidOf 19 = .ok (.iaload, 1) := by decide +kernel
theorem dX11_bidOf_20 : decode cX11_bidOf 20 = .ok (.iload_n 3, 1) := by decide +kernel
theorem dX11_bidOf_21 : decode cX11_bidOf 21 = .ok (.if_icmp .le 7, 3) := by decide +kernel
theorem dX11_bidOf_24 : decode cX11_bidOf 24 = .ok (.iload_n 3, 1) := by decide +kernel
theorem dX11_bidOf_25 : decode cX11_bidOf 25 = .ok (.goto 9, 3) := by decide +kernel
theorem dX11_bidOf_28 : decode cX11_bidOf 28 = .ok (.aload_n 0, 1) := by decide +kernel
theorem dX11_bidOf_29 : decode cX11_bidOf 29 = .ok (.getfield 63, 3) := by decide +kernel
theorem dX11_bidOf_32 : decode cX11_bidOf 32 = .ok (.iload_n 2, 1) := by decide +kernel
theorem dX11_bidOf_33 : decode cX11_bidOf 33 = .ok (.iaload, 1) := by decide +kernel
theorem dX11_bidOf_34 : decode cX11_bidOf 34 = .ok (.ireturn, 1) := by decide +kernel
theorem dX11_winner_0 : decode cX11_winner 0 = .ok (.iconst (-1), 1) := by decide +kernel
theorem dX11_winner_1 : decode cX11_winner 1 = .ok (.istore_n 2, 1) := by decide +kernel
theorem dX11_winner_2 : decode cX11_winner 2 = .ok (.aload_n 0, 1) := by decide +kernel
theorem dX11_winner_3 : decode cX11_winner 3 = .ok (.getfield 41, 3) := by decide +kernel
theorem dX11_winner_6 : decode cX11_winner 6 = .ok (.bipush 8, 2) := by decide +kernel
theorem dX11_winner_8 : decode cX11_winner 8 = .ok (.iload_n 1, 1) := by decide +kernel
theorem dX11_winner_9 : decode cX11_winner 9 = .ok (.imul, 1) := by decide +kernel
theorem dX11_winner_10 : decode cX11_winner 10 = .ok (.iconst 5, 1) := by decide +kernel
theorem dX11_winner_11 : decode cX11_winner 11 = .ok (.iadd, 1) := by decide +kernel
theorem dX11_winner_12 : decode cX11_winner 12 = .ok (.iaload, 1) := by decide +kernel
theorem dX11_winner_13 : decode cX11_winner 13 = .ok (.iconst 1, 1) := by decide +kernel
theorem dX11_winner_14 : decode cX11_winner 14 = .ok (.if_icmp .ne 68, 3) := by decide +kernel
theorem dX11_winner_17 : decode cX11_winner 17 = .ok (.iconst 0, 1) := by decide +kernel
theorem dX11_winner_18 : decode cX11_winner 18 = .ok (.istore_n 3, 1) := by decide +kernel
theorem dX11_winner_19 : decode cX11_winner 19 = .ok (.iload_n 3, 1) := by decide +kernel
theorem dX11_winner_20 : decode cX11_winner 20 = .ok (.aload_n 0, 1) := by decide +kernel
theorem dX11_winner_21 : decode cX11_winner 21 = .ok (.getfield 7, 3) := by decide +kernel
theorem dX11_winner_24 : decode cX11_winner 24 = .ok (.iload_n 1, 1) := by decide +kernel
theorem dX11_winner_25 : decode cX11_winner 25 = .ok (.iaload, 1) := by decide +kernel
theorem dX11_winner_26 : decode cX11_winner 26 = .ok (.if_icmp .ge 54, 3) := by decide +kernel
theorem dX11_winner_29 : decode cX11_winner 29 = .ok (.bipush 12, 2) := by decide +kernel
theorem dX11_winner_31 : decode cX11_winner 31 = .ok (.iload_n 1, 1) := by decide +kernel
theorem dX11_winner_32 : decode cX11_winner 32 = .ok (.imul, 1) := by decide +kernel
theorem dX11_winner_33 : decode cX11_winner 33 = .ok (.iload_n 3, 1) := by decide +kernel
theorem dX11_winner_34 : decode cX11_winner 34 = .ok (.iadd, 1) := by decide +kernel
theorem dX11_winner_35 : decode cX11_winner 35 = .ok (.istore 4, 2) := by decide +kernel
theorem dX11_winner_37 : decode cX11_winner 37 = .ok (.aload_n 0, 1) := by decide +kernel
theorem dX11_winner_38 : decode cX11_winner 38 = .ok (.iload 4, 2) := by decide +kernel
theorem dX11_winner_40 : decode cX11_winner 40 = .ok (.invokevirtual 139, 3) := by decide +kernel
theorem dX11_winner_43 : decode cX11_winner 43 = .ok (.ifCond .eq 31, 3) := by decide +kernel
theorem dX11_winner_46 : decode cX11_winner 46 = .ok (.iload_n 2, 1) := by decide +kernel
theorem dX11_winner_47 : decode cX11_winner 47 = .ok (.iconst (-1), 1) := by decide +kernel
theorem dX11_winner_48 : decode cX11_winner 48 = .ok (.if_icmp .eq 24, 3) := by decide +kernel
theorem dX11_winner_51 : decode cX11_winner 51 = .ok (.aload_n 0, 1) := by decide +kernel
theorem dX11_winner_52 : decode cX11_winner 52 = .ok (.iload_n 1, 1) := by decide +kernel
theorem dX11_winner_53 : decode cX11_winner 53 = .ok (.iload 4, 2) := by decide +kernel
theorem dX11_winner_55 : decode cX11_winner 55 = .ok (.invokevirtual 142, 3) := by decide +kernel
theorem dX11_winner_58 : decode cX11_winner 58 = .ok (.aload_n 0, 1) := by decide +kernel
theorem dX11_winner_59 : decode cX11_winner 59 = .ok (.iload_n 1, 1) := by decide +kernel
theorem dX11_winner_60 : decode cX11_winner 60 = .ok (.bipush 12, 2) := by decide +kernel
theorem dX11_winner_62 : decode cX11_winner 62 = .ok (.iload_n 1, 1) := by decide +kernel
theorem dX11_winner_63 : decode cX11_winner 63 = .ok (.imul, 1) := by decide +kernel
theorem dX11_winner_64 : decode cX11_winner 64 = .ok (.iload_n 2, 1) := by decide +kernel
theorem dX11_winner_65 : decode cX11_winner 65 = .ok (.iadd, 1) := by decide +kernel
theorem dX11_winner_66 : decode cX11_winner 66 = .ok (.invokevirtual 142, 3) := by decide +kernel
theorem dX11_winner_69 : decode cX11_winner 69 = .ok (.if_icmp .le 5, 3) := by decide +kernel
theorem dX11_winner_72 : decode cX11_winner 72 = .ok (.iload_n 3, 1) := by decide +kernel
theorem dX11_winner_73 : decode cX11_winner 73 = .ok (.istore_n 2, 1) := by decide +kernel
theorem dX11_winner_74 : decode cX11_winner 74 = .ok (.iinc 3 1, 3) := by decide +kernel
theorem dX11_winner_77 : decode cX11_winner 77 = .ok (.goto (-58), 3) := by decide +kernel
theorem dX11_winner_80 : decode cX11_winner 80 = .ok (.iload_n 2, 1) := by decide +kernel
theorem dX11_winner_81 : decode cX11_winner 81 = .ok (.ireturn, 1) := by decide +kernel
theorem dX11_winner_82 : decode cX11_winner 82 = .ok (.aload_n 0, 1) := by decide +kernel
theorem dX11_winner_83 : decode cX11_winner 83 = .ok (.iload_n 1, 1) := by decide +kernel
theorem dX11_winner_84 : decode cX11_winner 84 = .ok (.iconst 1, 1) := by decide +kernel
theorem dX11_winner_85 : decode cX11_winner 85 = .ok (.invokevirtual 146, 3) := by decide +kernel
theorem dX11_winner_88 : decode cX11_winner 88 = .ok (.istore_n 3, 1) := by decide +kernel
theorem dX11_winner_89 : decode cX11_winner 89 = .ok (.iload_n 3, 1) := by decide +kernel
theorem dX11_winner_90 : decode cX11_winner 90 = .ok (.ifCond .ne 5, 3) := by decide +kernel
theorem dX11_winner_93 : decode cX11_winner 93 = .ok (.iconst (-1), 1) := by decide +kernel
theorem dX11_winner_94 : decode cX11_winner 94 = .ok (.ireturn, 1) := by decide +kernel
theorem dX11_winner_95 : decode cX11_winner 95 = .ok (.aload_n 0, 1) := by decide +kernel
theorem dX11_winner_96 : decode cX11_winner 96 = .ok (.getfield 16, 3) := by decide +kernel
theorem dX11_winner_99 : decode cX11_winner 99 = .ok (.iload_n 1, 1) := by decide +kernel
theorem dX11_winner_100 : decode cX11_winner 100 = .ok (.iaload, 1) := by decide +kernel
theorem dX11_winner_101 : decode cX11_winner 101 = .ok (.iload_n 3, 1) := by decide +kernel
theorem dX11_winner_102 : decode cX11_winner 102 = .ok (.irem, 1) := by decide +kernel
theorem dX11_winner_103 : decode cX11_winner 103 = .ok (.istore 4, 2) := by decide +kernel
theorem dX11_winner_105 : decode cX11_winner 105 = .ok (.iconst 0, 1) := by decide +kernel
theorem dX11_winner_106 : decode cX11_winner 106 = .ok (.istore 5, 2) := by decide +kernel
theorem dX11_winner_108 : decode cX11_winner 108 = .ok (.iload 5, 2) := by decide +kernel
theorem dX11_winner_110 : decode cX11_winner 110 = .ok (.aload_n 0, 1) := by decide +kernel
theorem dX11_winner_111 : decode cX11_winner 111 = .ok (.getfield 7, 3) := by decide +kernel
theorem dX11_winner_114 : decode cX11_winner 114 = .ok (.iload_n 1, 1) := by decide +kernel
theorem dX11_winner_115 : decode cX11_winner 115 = .ok (.iaload, 1) := by decide +kernel
theorem dX11_winner_116 : decode cX11_winner 116 = .ok (.if_icmp .ge 57, 3) := by decide +kernel
theorem dX11_winner_119 : decode cX11_winner 119 = .ok (.bipush 12, 2) := by decide +kernel
theorem dX11_winner_121 : decode cX11_winner 121 = .ok (.iload_n 1, 1) := by decide +kernel
theorem dX11_winner_122 : decode cX11_winner 122 = .ok (.imul, 1) := by decide +kernel
theorem dX11_winner_123 : decode cX11_winner 123 = .ok (.iload 5, 2) := by decide +kernel
theorem dX11_winner_125 : decode cX11_winner 125 = .ok (.iadd, 1) := by decide +kernel
theorem dX11_winner_126 : decode cX11_winner 126 = .ok (.istore 6, 2) := by decide +kernel
theorem dX11_winner_128 : decode cX11_winner 128 = .ok (.aload_n 0, 1) := by decide +kernel
theorem dX11_winner_129 : decode cX11_winner 129 = .ok (.iload 6, 2) := by decide +kernel
theorem dX11_winner_131 : decode cX11_winner 131 = .ok (.invokevirtual 139, 3) := by decide +kernel
theorem dX11_winner_134 : decode cX11_winner 134 = .ok (.ifCond .ne 6, 3) := by decide +kernel
theorem dX11_winner_137 : decode cX11_winner 137 = .ok (.goto 30, 3) := by decide +kernel
theorem dX11_winner_140 : decode cX11_winner 140 = .ok (.iload 4, 2) := by decide +kernel
theorem dX11_winner_142 : decode cX11_winner 142 = .ok (.aload_n 0, 1) := by decide +kernel
theorem dX11_winner_143 : decode cX11_winner 143 = .ok (.getfield 51, 3) := by decide +kernel
theorem dX11_winner_146 : decode cX11_winner 146 = .ok (.iload 6, 2) := by decide +kernel
theorem dX11_winner_148 : decode cX11_winner 148 = .ok (.iaload, 1) := by decide +kernel
theorem dX11_winner_149 : decode cX11_winner 149 = .ok (.if_icmp .ge 6, 3) := by decide +kernel
theorem dX11_winner_152 : decode cX11_winner 152 = .ok (.iload 5, 2) := by decide +kernel
theorem dX11_winner_154 : decode cX11_winner 154 = .ok (.ireturn, 1) := by decide +kernel
theorem dX11_winner_155 : decode cX11_winner 155 = .ok (.iload 4, 2) := by decide +kernel
theorem dX11_winner_157 : decode cX11_winner 157 = .ok (.aload_n 0, 1) := by decide +kernel
theorem dX11_winner_158 : decode cX11_winner 158 = .ok (.getfield 51, 3) := by decide +kernel
theorem dX11_winner_161 : decode cX11_winner 161 = .ok (.iload 6, 2) := by decide +kernel
theorem dX11_winner_163 : decode cX11_winner 163 = .ok (.iaload, 1) := by decide +kernel
theorem dX11_winner_164 : decode cX11_winner 164 = .ok (.isub, 1) := by decide +kernel
theorem dX11_winner_165 : decode cX11_winner 165 = .ok (.istore 4, 2) := by decide +kernel
theorem dX11_winner_167 : decode cX11_winner 167 = .ok (.iinc 5 1, 3) := by decide +kernel
theorem dX11_winner_170 : decode cX11_winner 170 = .ok (.goto (-62), 3) := by decide +kernel
theorem dX11_winner_173 : decode cX11_winner 173 = .ok (.iconst (-1), 1) := by decide +kernel
theorem dX11_winner_174 : decode cX11_winner 174 = .ok (.ireturn, 1) := by decide +kernel
theorem dX11_draws_0 : decode cX11_draws 0 = .ok (.aload_n 0, 1) := by decide +kernel
theorem dX11_draws_1 : decode cX11_draws 1 = .ok (.getfield 41, 3) := by decide +kernel
theorem dX11_draws_4 : decode cX11_draws 4 = .ok (.bipush 8, 2) := by decide +kernel
theorem dX11_draws_6 : decode cX11_draws 6 = .ok (.iload_n 1, 1) := by decide +kernel
theorem dX11_draws_7 : decode cX11_draws 7 = .ok (.imul, 1) := by decide +kernel
theorem dX11_draws_8 : decode cX11_draws 8 = .ok (.iconst 3, 1) := by decide +kernel
theorem dX11_draws_9 : decode cX11_draws 9 = .ok (.iadd, 1) := by decide +kernel
theorem dX11_draws_10 : decode cX11_draws 10 = .ok (.iaload, 1) := by decide +kernel
theorem dX11_draws_11 : decode cX11_draws 11 = .ok (.istore_n 2, 1) := by decide +kernel
theorem dX11_draws_12 : decode cX11_draws 12 = .ok (.aload_n 0, 1) := by decide +kernel
theorem dX11_draws_13 : decode cX11_draws 13 = .ok (.getfield 25, 3) := by decide +kernel
theorem dX11_draws_16 : decode cX11_draws 16 = .ok (.iload_n 1, 1) := by decide +kernel
theorem dX11_draws_17 : decode cX11_draws 17 = .ok (.laload, 1) := by decide +kernel
theorem dX11_draws_18 : decode cX11_draws 18 = .ok (.iload_n 2, 1) := by decide +kernel
theorem dX11_draws_19 : decode cX11_draws 19 = .ok (.i2l, 1) := by decide +kernel
theorem dX11_draws_20 : decode cX11_draws 20 = .ok (.lcmp, 1) := by decide +kernel
theorem dX11_draws_21 : decode cX11_draws 21 = .ok (.ifCond .ge 7, 3) := by decide +kernel
theorem dX11_draws_24 : decode cX11_draws 24 = .ok (.iconst (-1), 1) := by decide +kernel
theorem dX11_draws_25 : decode cX11_draws 25 = .ok (.goto 8, 3) := by decide +kernel
theorem dX11_draws_28 : decode cX11_draws 28 = .ok (.aload_n 0, 1) := by decide +kernel
theorem dX11_draws_29 : decode cX11_draws 29 = .ok (.iload_n 1, 1) := by decide +kernel
theorem dX11_draws_30 : decode cX11_draws 30 = .ok (.invokevirtual 150, 3) := by decide +kernel
theorem dX11_draws_33 : decode cX11_draws 33 = .ok (.istore_n 3, 1) := by decide +kernel
theorem dX11_draws_34 : decode cX11_draws 34 = .ok (.iload_n 3, 1) := by decide +kernel
theorem dX11_draws_35 : decode cX11_draws 35 = .ok (.iconst (-1), 1) := by decide +kernel
theorem dX11_draws_36 : decode cX11_draws 36 = .ok (.if_icmp .ne 4, 3) := by decide +kernel
theorem dX11_draws_39 : decode cX11_draws 39 = .ok (.return_, 1) := by decide +kernel
theorem dX11_draws_40 : decode cX11_draws 40 = .ok (.bipush 12, 2) := by decide +kernel
theorem dX11_draws_42 : decode cX11_draws 42 = .ok (.iload_n 1, 1) := by decide +kernel
theorem dX11_draws_43 : decode cX11_draws 43 = .ok (.imul, 1) := by decide +kernel
theorem dX11_draws_44 : decode cX11_draws 44 = .ok (.iload_n 3, 1) := by decide +kernel
theorem dX11_draws_45 : decode cX11_draws 45 = .ok (.iadd, 1) := by decide +kernel
theorem dX11_draws_46 : decode cX11_draws 46 = .ok (.istore 4, 2) := by decide +kernel
theorem dX11_draws_48 : decode cX11_draws 48 = .ok (.aload_n 0, 1) := by decide +kernel
theorem dX11_draws_49 : decode cX11_draws 49 = .ok (.getfield 41, 3) := by decide +kernel
theorem dX11_draws_52 : decode cX11_draws 52 = .ok (.bipush 8, 2) := by decide +kernel
theorem dX11_draws_54 : decode cX11_draws 54 = .ok (.iload_n 1, 1) := by decide +kernel
theorem dX11_draws_55 : decode cX11_draws 55 = .ok (.imul, 1) := by decide +kernel
theorem dX11_draws_56 : decode cX11_draws 56 = .ok (.iconst 5, 1) := by decide +kernel
theorem dX11_draws_57 : decode cX11_draws 57 = .ok (.iadd, 1) := by decide +kernel
theorem dX11_draws_58 : decode cX11_draws 58 = .ok (.iaload, 1) := by decide +kernel
theorem dX11_draws_59 : decode cX11_draws 59 = .ok (.iconst 1, 1) := by decide +kernel
theorem dX11_draws_60 : decode cX11_draws 60 = .ok (.if_icmp .ne 13, 3) := by decide +kernel
theorem dX11_draws_63 : decode cX11_draws 63 = .ok (.aload_n 0, 1) := by decide +kernel
theorem dX11_draws_64 : decode cX11_draws 64 = .ok (.iload_n 1, 1) := by decide +kernel
theorem dX11_draws_65 : decode cX11_draws 65 = .ok (.iload 4, 2) := by decide +kernel
theorem dX11_draws_67 : decode cX11_draws 67 = .ok (.invokevirtual 142, 3) := by decide +kernel
theorem dX11_draws_70 : decode cX11_draws 70 = .ok (.goto 4, 3) := by decide +kernel
theorem dX11_draws_73 : decode cX11_draws 73 = .ok (.iconst 0, 1) := by decide +kernel
theorem dX11_draws_74 : decode cX11_draws 74 = .ok (.istore 5, 2) := by decide +kernel
theorem dX11_draws_76 : decode cX11_draws 76 = .ok (.aload_n 0, 1) := by decide +kernel
theorem dX11_draws_77 : decode cX11_draws 77 = .ok (.getfield 25, 3) := by decide +kernel
theorem dX11_draws_80 : decode cX11_draws 80 = .ok (.iload_n 1, 1) := by decide +kernel
theorem dX11_draws_81 : decode cX11_draws 81 = .ok (.aload_n 0, 1) := by decide +kernel
theorem dX11_draws_82 : decode cX11_draws 82 = .ok (.getfield 25, 3) := by decide +kernel
theorem dX11_draws_85 : decode cX11_draws 85 = .ok (.iload_n 1, 1) := by decide +kernel
theorem dX11_draws_86 : decode cX11_draws 86 = .ok (.laload, 1) := by decide +kernel
theorem dX11_draws_87 : decode cX11_draws 87 = .ok (.iload_n 2, 1) := by decide +kernel
theorem dX11_draws_88 : decode cX11_draws 88 = .ok (.i2l, 1) := by decide +kernel
theorem dX11_draws_89 : decode cX11_draws 89 = .ok (.lsub, 1) := by decide +kernel
theorem dX11_draws_90 : decode cX11_draws 90 = .ok (.lastore, 1) := by decide +kernel
theorem dX11_draws_91 : decode cX11_draws 91 = .ok (.aload_n 0, 1) := by decide +kernel
theorem dX11_draws_92 : decode cX11_draws 92 = .ok (.getfield 99, 3) := by decide +kernel
theorem dX11_draws_95 : decode cX11_draws 95 = .ok (.iload 4, 2) := by decide +kernel
theorem dX11_draws_97 : decode cX11_draws 97 = .ok (.iconst 1, 1) := by decide +kernel
theorem dX11_draws_98 : decode cX11_draws 98 = .ok (.bastore, 1) := by decide +kernel
theorem dX11_draws_99 : decode cX11_draws 99 = .ok (.aload_n 0, 1) := by decide +kernel
theorem dX11_draws_100 : decode cX11_draws 100 = .ok (.getfield 54, 3) := by decide +kernel
theorem dX11_draws_103 : decode cX11_draws 103 = .ok (.iload 4, 2) := by decide +kernel
theorem dX11_draws_105 : decode cX11_draws 105 = .ok (.aload_n 0, 1) := by decide +kernel
theorem dX11_draws_106 : decode cX11_draws 106 = .ok (.getfield 41, 3) := by decide +kernel
theorem dX11_draws_109 : decode cX11_draws 109 = .ok (.bipush 8, 2) := by decide +kernel
theorem dX11_draws_111 : decode cX11_draws 111 = .ok (.iload_n 1, 1) := by decide +kernel
theorem dX11_draws_112 : decode cX11_draws 112 = .ok (.imul, 1) := by decide +kernel
theorem dX11_draws_113 : decode cX11_draws 113 = .ok (.iconst 4, 1) := by decide +kernel
theorem dX11_draws_114 : decode cX11_draws 114 = .ok (.iadd, 1) := by decide +kernel
theorem dX11_draws_115 : decode cX11_draws 115 = .ok (.iaload, 1) := by decide +kernel
theorem dX11_draws_116 : decode cX11_draws 116 = .ok (.iastore, 1) := by decide +kernel
theorem dX11_draws_117 : decode cX11_draws 117 = .ok (.aload_n 0, 1) := by decide +kernel
theorem dX11_draws_118 : decode cX11_draws 118 = .ok (.getfield 57, 3) := by decide +kernel
theorem dX11_draws_121 : decode cX11_draws 121 = .ok (.iload 4, 2) := by decide +kernel
theorem dX11_draws_123 : decode cX11_draws 123 = .ok (.iconst 0, 1) := by decide +kernel
theorem dX11_draws_124 : decode cX11_draws 124 = .ok (.iastore, 1) := by decide +kernel
theorem dX11_draws_125 : decode cX11_draws 125 = .ok (.aload_n 0, 1) := by decide +kernel
theorem dX11_draws_126 : decode cX11_draws 126 = .ok (.getfield 102, 3) := by decide +kernel
theorem dX11_draws_129 : decode cX11_draws 129 = .ok (.iload 4, 2) := by decide +kernel
theorem dX11_draws_131 : decode cX11_draws 131 = .ok (.iconst 0, 1) := by decide +kernel
theorem dX11_draws_132 : decode cX11_draws 132 = .ok (.bastore, 1) := by decide +kernel
theorem dX11_draws_133 : decode cX11_draws 133 = .ok (.aload_n 0, 1) := by decide +kernel
theorem dX11_draws_134 : decode cX11_draws 134 = .ok (.getfield 81, 3) := by decide +kernel
theorem dX11_draws_137 : decode cX11_draws 137 = .ok (.iload 4, 2) := by decide +kernel
theorem dX11_draws_139 : decode cX11_draws 139 = .ok (.iload_n 2, 1) := by decide +kernel
theorem dX11_draws_140 : decode cX11_draws 140 = .ok (.iload 5, 2) := by decide +kernel
theorem dX11_draws_142 : decode cX11_draws 142 = .ok (.isub, 1) := by decide +kernel
theorem dX11_draws_143 : decode cX11_draws 143 = .ok (.i2l, 1) := by decide +kernel
theorem dX11_draws_144 : decode cX11_draws 144 = .ok (.lastore, 1) := by decide +kernel
theorem dX11_draws_145 : decode cX11_draws 145 = .ok (.aload_n 0, 1) := by decide +kernel
theorem dX11_draws_146 : decode cX11_draws 146 = .ok (.getfield 93, 3) := by decide +kernel
theorem dX11_draws_149 : decode cX11_draws 149 = .ok (.iload 4, 2) := by decide +kernel
theorem dX11_draws_151 : decode cX11_draws 151 = .ok (.aload_n 0, 1) := by decide +kernel
theorem dX11_draws_152 : decode cX11_draws 152 = .ok (.getfield 81, 3) := by decide +kernel
theorem dX11_draws_155 : decode cX11_draws 155 = .ok (.iload 4, 2) := by decide +kernel
theorem dX11_draws_157 : decode cX11_draws 157 = .ok (.laload, 1) := by decide +kernel
theorem dX11_draws_158 : decode cX11_draws 158 = .ok (.aload_n 0, 1) := by decide +kernel
theorem dX11_draws_159 : decode cX11_draws 159 = .ok (.getfield 54, 3) := by decide +kernel
theorem dX11_draws_162 : decode cX11_draws 162 = .ok (.iload 4, 2) := by decide +kernel
theorem dX11_draws_164 : decode cX11_draws 164 = .ok (.iaload, 1) := by decide +kernel
theorem dX11_draws_165 : decode cX11_draws 165 = .ok (.i2l, 1) := by decide +kernel
theorem dX11_draws_166 : decode cX11_draws 166 = .ok (.ldiv, 1) := by decide +kernel
theorem dX11_draws_167 : decode cX11_draws 167 = .ok (.lastore, 1) := by decide +kernel
theorem dX11_draws_168 : decode cX11_draws 168 = .ok (.aload_n 0, 1) := by decide +kernel
theorem dX11_draws_169 : decode cX11_draws 169 = .ok (.getfield 84, 3) := by decide +kernel
theorem dX11_draws_172 : decode cX11_draws 172 = .ok (.iload 4, 2) := by decide +kernel
theorem dX11_draws_174 : decode cX11_draws 174 = .ok (.lconst 0, 1) := by decide +kernel
theorem dX11_draws_175 : decode cX11_draws 175 = .ok (.lastore, 1) := by decide +kernel
theorem dX11_draws_176 : decode cX11_draws 176 = .ok (.aload_n 0, 1) := by decide +kernel
theorem dX11_draws_177 : decode cX11_draws 177 = .ok (.getfield 60, 3) := by decide +kernel
theorem dX11_draws_180 : decode cX11_draws 180 = .ok (.iload 4, 2) := by decide +kernel
theorem dX11_draws_182 : decode cX11_draws 182 = .ok (.aload_n 0, 1) := by decide +kernel
theorem dX11_draws_183 : decode cX11_draws 183 = .ok (.getfield 13, 3) := by decide +kernel
theorem dX11_draws_186 : decode cX11_draws 186 = .ok (.iload_n 1, 1) := by decide +kernel
theorem dX11_draws_187 : decode cX11_draws 187 = .ok (.iaload, 1) := by decide +kernel
theorem dX11_draws_188 : decode cX11_draws 188 = .ok (.iastore, 1) := by decide +kernel
theorem dX11_draws_189 : decode cX11_draws 189 = .ok (.aload_n 0, 1) := by decide +kernel
theorem dX11_draws_190 : decode cX11_draws 190 = .ok (.getfield 63, 3) := by decide +kernel
theorem dX11_draws_193 : decode cX11_draws 193 = .ok (.iload 4, 2) := by decide +kernel
theorem dX11_draws_195 : decode cX11_draws 195 = .ok (.iconst 0, 1) := by decide +kernel
theorem dX11_draws_196 : decode cX11_draws 196 = .ok (.iastore, 1) := by decide +kernel
theorem dX11_draws_197 : decode cX11_draws 197 = .ok (.aload_n 0, 1) := by decide +kernel
theorem dX11_draws_198 : decode cX11_draws 198 = .ok (.getfield 22, 3) := by decide +kernel
theorem dX11_draws_201 : decode cX11_draws 201 = .ok (.iload_n 1, 1) := by decide +kernel
theorem dX11_draws_202 : decode cX11_draws 202 = .ok (.aload_n 0, 1) := by decide +kernel
theorem dX11_draws_203 : decode cX11_draws 203 = .ok (.getfield 22, 3) := by decide +kernel
theorem dX11_draws_206 : decode cX11_draws 206 = .ok (.iload_n 1, 1) := by decide +kernel
theorem dX11_draws_207 : decode cX11_draws 207 = .ok (.iaload, 1) := by decide +kernel
theorem dX11_draws_208 : decode cX11_draws 208 = .ok (.iconst 1, 1) := by decide +kernel
theorem dX11_draws_209 : decode cX11_draws 209 = .ok (.iadd, 1) := by decide +kernel
theorem dX11_draws_210 : decode cX11_draws 210 = .ok (.iastore, 1) := by decide +kernel
theorem dX11_draws_211 : decode cX11_draws 211 = .ok (.aload_n 0, 1) := by decide +kernel
theorem dX11_draws_212 : decode cX11_draws 212 = .ok (.iload_n 1, 1) := by decide +kernel
theorem dX11_draws_213 : decode cX11_draws 213 = .ok (.iconst 0, 1) := by decide +kernel
theorem dX11_draws_214 : decode cX11_draws 214 = .ok (.invokevirtual 146, 3) := by decide +kernel
theorem dX11_draws_217 : decode cX11_draws 217 = .ok (.istore 6, 2) := by decide +kernel
theorem dX11_draws_219 : decode cX11_draws 219 = .ok (.iload 5, 2) := by decide +kernel
theorem dX11_draws_221 : decode cX11_draws 221 = .ok (.istore 7, 2) := by decide +kernel
theorem dX11_draws_223 : decode cX11_draws 223 = .ok (.iconst 0, 1) := by decide +kernel
theorem dX11_draws_224 : decode cX11_draws 224 = .ok (.istore 8, 2) := by decide +kernel
theorem dX11_draws_226 : decode cX11_draws 226 = .ok (.iload 8, 2) := by decide +kernel
theorem dX11_draws_228 : decode cX11_draws 228 = .ok (.aload_n 0, 1) := by decide +kernel
theorem dX11_draws_229 : decode cX11_draws 229 = .ok (.getfield 7, 3) := by decide +kernel
theorem dX11_draws_232 : decode cX11_draws 232 = .ok (.iload_n 1, 1) := by decide +kernel
theorem dX11_draws_233 : decode cX11_draws 233 = .ok (.iaload, 1) := by decide +kernel
theorem dX11_draws_234 : decode cX11_draws 234 = .ok (.if_icmp .ge 71, 3) := by decide +kernel
theorem dX11_draws_237 : decode cX11_draws 237 = .ok (.bipush 12, 2) := by decide +kernel
theorem dX11_draws_239 : decode cX11_draws 239 = .ok (.iload_n 1, 1) := by decide +kernel
theorem dX11_draws_240 : decode cX11_draws 240 = .ok (.imul, 1) := by decide +kernel
theorem dX11_draws_241 : decode cX11_draws 241 = .ok (.iload 8, 2) := by decide +kernel
theorem dX11_draws_243 : decode cX11_draws 243 = .ok (.iadd, 1) := by decide +kernel
theorem dX11_draws_244 : decode cX11_draws 244 = .ok (.istore 9, 2) := by decide +kernel
theorem dX11_draws_246 : decode cX11_draws 246 = .ok (.aload_n 0, 1) := by decide +kernel
theorem dX11_draws_247 : decode cX11_draws 247 = .ok (.getfield 96, 3) := by decide +kernel
theorem dX11_draws_250 : decode cX11_draws 250 = .ok (.iload 9, 2) := by decide +kernel
theorem dX11_draws_252 : decode cX11_draws 252 = .ok (.baload, 1) := by decide +kernel
theorem dX11_draws_253 : decode cX11_draws 253 = .ok (.ifCond .ne 6, 3) := by decide +kernel
theorem dX11_draws_256 : decode cX11_draws 256 = .ok (.goto 43, 3) := by decide +kernel
theorem dX11_draws_259 : decode cX11_draws 259 = .ok (.iload 5, 2) := by decide +kernel
theorem dX11_draws_261 : decode cX11_draws 261 = .ok (.aload_n 0, 1) := by decide +kernel
theorem dX11_draws_262 : decode cX11_draws 262 = .ok (.getfield 51, 3) := by decide +kernel
theorem dX11_draws_265 : decode cX11_draws 265 = .ok (.iload 9, 2) := by decide +kernel
theorem dX11_draws_267 : decode cX11_draws 267 = .ok (.iaload, 1) := by decide +kernel
theorem dX11_draws_268 : decode cX11_draws 268 = .ok (.imul, 1) := by decide +kernel
theorem dX11_draws_269 : decode cX11_draws 269 = .ok (.iload 6, 2) := by decide +kernel
theorem dX11_draws_271 : decode cX11_draws 271 = .ok (.idiv, 1) := by decide +kernel
theorem dX11_draws_272 : decode cX11_draws 272 = .ok (.istore 10, 2) := by decide +kernel
theorem dX11_draws_274 : decode cX11_draws 274 = .ok (.aload_n 0, 1) := by decide +kernel
theorem dX11_draws_275 : decode cX11_draws 275 = .ok (.getfield 72, 3) := by decide +kernel
theorem dX11_draws_278 : decode cX11_draws 278 = .ok (.iload 9, 2) := by decide +kernel
theorem dX11_draws_280 : decode cX11_draws 280 = .ok (.aload_n 0, 1) := by decide +kernel
theorem dX11_draws_281 : decode cX11_draws 281 = .ok (.getfield 72, 3) := by decide +kernel
theorem dX11_draws_284 : decode cX11_draws 284 = .ok (.iload 9, 2) := by decide +kernel
theorem dX11_draws_286 : decode cX11_draws 286 = .ok (.laload, 1) := by decide +kernel
theorem dX11_draws_287 : decode cX11_draws 287 = .ok (.iload 10, 2) := by decide +kernel
theorem dX11_draws_289 : decode cX11_draws 289 = .ok (.i2l, 1) := by decide +kernel
theorem dX11_draws_290 : decode cX11_draws 290 = .ok (.ladd, 1) := by decide +kernel
theorem dX11_draws_291 : decode cX11_draws 291 = .ok (.lastore, 1) := by decide +kernel
theorem dX11_draws_292 : decode cX11_draws 292 = .ok (.iload 7, 2) := by decide +kernel
theorem dX11_draws_294 : decode cX11_draws 294 = .ok (.iload 10, 2) := by decide +kernel
theorem dX11_draws_296 : decode cX11_draws 296 = .ok (.isub, 1) := by decide +kernel
theorem dX11_draws_297 : decode cX11_draws 297 = .ok (.istore 7, 2) := by decide +kernel
theorem dX11_draws_299 : decode cX11_draws 299 = .ok (.iinc 8 1, 3) := by decide +kernel
theorem dX11_draws_302 : decode cX11_draws 302 = .ok (.goto (-76), 3) := by decide +kernel
theorem dX11_draws_305 : decode cX11_draws 305 = .ok (.aload_n 0, 1) := by decide +kernel
theorem dX11_draws_306 : decode cX11_draws 306 = .ok (.getfield 25, 3) := by decide +kernel
theorem dX11_draws_309 : decode cX11_draws 309 = .ok (.iload_n 1, 1) := by decide +kernel
theorem dX11_draws_310 : decode cX11_draws 310 = .ok (.aload_n 0, 1) := by decide +kernel
theorem dX11_draws_311 : decode cX11_draws 311 = .ok (.getfield 25, 3) := by decide +kernel
theorem dX11_draws_314 : decode cX11_draws 314 = .ok (.iload_n 1, 1) := by decide +kernel
theorem dX11_draws_315 : decode cX11_draws 315 = .ok (.laload, 1) := by decide +kernel
theorem dX11_draws_316 : decode cX11_draws 316 = .ok (.iload 7, 2) := by decide +kernel
theorem dX11_draws_318 : decode cX11_draws 318 = .ok (.i2l, 1) := by decide +kernel
theorem dX11_draws_319 : decode cX11_draws 319 = .ok (.ladd, 1) := by decide +kernel
theorem dX11_draws_320 : decode cX11_draws 320 = .ok (.lastore, 1) := by decide +kernel
theorem dX11_draws_321 : decode cX11_draws 321 = .ok (.return_, 1) := by decide +kernel
theorem dX11_fills_0 : decode cX11_fills 0 = .ok (.iconst 0, 1) := by decide +kernel
theorem dX11_fills_1 : decode cX11_fills 1 = .ok (.istore_n 2, 1) := by decide +kernel
theorem dX11_fills_2 : decode cX11_fills 2 = .ok (.iload_n 2, 1) := by decide +kernel
theorem dX11_fills_3 : decode cX11_fills 3 = .ok (.aload_n 0, 1) := by decide +kernel
theorem dX11_fills_4 : decode cX11_fills 4 = .ok (.getfield 7, 3) := by decide +kernel
theorem dX11_fills_7 : decode cX11_fills 7 = .ok (.iload_n 1, 1) := by decide +kernel
theorem dX11_fills_8 : decode cX11_fills 8 = .ok (.iaload, 1) := by decide +kernel
theorem dX11_fills_9 : decode cX11_fills 9 = .ok (.if_icmp .ge 91, 3) := by decide +kernel
theorem dX11_fills_12 : decode cX11_fills 12 = .ok (.bipush 12, 2) := by decide +kernel
theorem dX11_fills_14 : decode cX11_fills 14 = .ok (.iload_n 1, 1) := by decide +kernel
theorem dX11_fills_15 : decode cX11_fills 15 = .ok (.imul, 1) := by decide +kernel
theorem dX11_fills_16 : decode cX11_fills 16 = .ok (.iload_n 2, 1) := by decide +kernel
theorem dX11_fills_17 : decode cX11_fills 17 = .ok (.iadd, 1) := by decide +kernel
theorem dX11_fills_18 : decode cX11_fills 18 = .ok (.istore_n 3, 1) := by decide +kernel
theorem dX11_fills_19 : decode cX11_fills 19 = .ok (.aload_n 0, 1) := by decide +kernel
theorem dX11_fills_20 : decode cX11_fills 20 = .ok (.getfield 84, 3) := by decide +kernel
theorem dX11_fills_23 : decode cX11_fills 23 = .ok (.iload_n 3, 1) := by decide +kernel
theorem dX11_fills_24 : decode cX11_fills 24 = .ok (.laload, 1) := by decide +kernel
theorem dX11_fills_25 : decode cX11_fills 25 = .ok (.lconst 0, 1) := by decide +kernel
theorem dX11_fills_26 : decode cX11_fills 26 = .ok (.lcmp, 1) := by decide +kernel
theorem dX11_fills_27 : decode cX11_fills 27 = .ok (.ifCond .eq 67, 3) := by decide +kernel
theorem dX11_fills_30 : decode cX11_fills 30 = .ok (.aload_n 0, 1) := by decide +kernel
theorem dX11_fills_31 : decode cX11_fills 31 = .ok (.getfield 25, 3) := by decide +kernel
theorem dX11_fills_34 : decode cX11_fills 34 = .ok (.iload_n 1, 1) := by decide +kernel
theorem dX11_fills_35 : decode cX11_fills 35 = .ok (.laload, 1) := by decide +kernel
theorem dX11_fills_36 : decode cX11_fills 36 = .ok (.aload_n 0, 1) := by decide +kernel
theorem dX11_fills_37 : decode cX11_fills 37 = .ok (.getfield 84, 3) := by decide +kernel
theorem dX11_fills_40 : decode cX11_fills 40 = .ok (.iload_n 3, 1) := by decide +kernel
theorem dX11_fills_41 : decode cX11_fills 41 = .ok (.laload, 1) := by decide +kernel
theorem dX11_fills_42 : decode cX11_fills 42 = .ok (.lcmp, 1) := by decide +kernel
theorem dX11_fills_43 : decode cX11_fills 43 = .ok (.ifCond .ge 6, 3) := by decide +kernel
theorem dX11_fills_46 : decode cX11_fills 46 = .ok (.goto 48, 3) := by decide +kernel
theorem dX11_fills_49 : decode cX11_fills 49 = .ok (.aload_n 0, 1) := by decide +kernel
theorem dX11_fills_50 : decode cX11_fills 50 = .ok (.getfield 25, 3) := by decide +kernel
theorem dX11_fills_53 : decode cX11_fills 53 = .ok (.iload_n 1, 1) := by decide +kernel
theorem dX11_fills_54 : decode cX11_fills 54 = .ok (.aload_n 0, 1) := by decide +kernel
theorem dX11_fills_55 : decode cX11_fills 55 = .ok (.getfield 25, 3) := by decide +kernel
theorem dX11_fills_58 : decode cX11_fills 58 = .ok (.iload_n 1, 1) := by decide +kernel
theorem dX11_fills_59 : decode cX11_fills 59 = .ok (.laload, 1) := by decide +kernel
theorem dX11_fills_60 : decode cX11_fills 60 = .ok (.aload_n 0, 1) := by decide +kernel
theorem dX11_fills_61 : decode cX11_fills 61 = .ok (.getfield 84, 3) := by decide +kernel
theorem dX11_fills_64 : decode cX11_fills 64 = .ok (.iload_n 3, 1) := by decide +kernel
theorem dX11_fills_65 : decode cX11_fills 65 = .ok (.laload, 1) := by decide +kernel
theorem dX11_fills_66 : decode cX11_fills 66 = .ok (.lsub, 1) := by decide +kernel
theorem dX11_fills_67 : decode cX11_fills 67 = .ok (.lastore, 1) := by decide +kernel
theorem dX11_fills_68 : decode cX11_fills 68 = .ok (.aload_n 0, 1) := by decide +kernel
theorem dX11_fills_69 : decode cX11_fills 69 = .ok (.getfield 81, 3) := by decide +kernel
theorem dX11_fills_72 : decode cX11_fills 72 = .ok (.iload_n 3, 1) := by decide +kernel
theorem dX11_fills_73 : decode cX11_fills 73 = .ok (.aload_n 0, 1) := by decide +kernel
theorem dX11_fills_74 : decode cX11_fills 74 = .ok (.getfield 81, 3) := by decide +kernel
theorem dX11_fills_77 : decode cX11_fills 77 = .ok (.iload_n 3, 1) := by decide +kernel
theorem dX11_fills_78 : decode cX11_fills 78 = .ok (.laload, 1) := by decide +kernel
theorem dX11_fills_79 : decode cX11_fills 79 = .ok (.aload_n 0, 1) := by decide +kernel
theorem dX11_fills_80 : decode cX11_fills 80 = .ok (.getfield 84, 3) := by decide +kernel
theorem dX11_fills_83 : decode cX11_fills 83 = .ok (.iload_n 3, 1) := by decide +kernel
theorem dX11_fills_84 : decode cX11_fills 84 = .ok (.laload, 1) := by decide +kernel
theorem dX11_fills_85 : decode cX11_fills 85 = .ok (.ladd, 1) := by decide +kernel
theorem dX11_fills_86 : decode cX11_fills 86 = .ok (.lastore, 1) := by decide +kernel
theorem dX11_fills_87 : decode cX11_fills 87 = .ok (.aload_n 0, 1) := by decide +kernel
theorem dX11_fills_88 : decode cX11_fills 88 = .ok (.getfield 84, 3) := by decide +kernel
theorem dX11_fills_91 : decode cX11_fills 91 = .ok (.iload_n 3, 1) := by decide +kernel
theorem dX11_fills_92 : decode cX11_fills 92 = .ok (.lconst 0, 1) := by decide +kernel
theorem dX11_fills_93 : decode cX11_fills 93 = .ok (.lastore, 1) := by decide +kernel
theorem dX11_fills_94 : decode cX11_fills 94 = .ok (.iinc 2 1, 3) := by decide +kernel
theorem dX11_fills_97 : decode cX11_fills 97 = .ok (.goto (-95), 3) := by decide +kernel
theorem dX11_fills_100 : decode cX11_fills 100 = .ok (.return_, 1) := by decide +kernel
theorem dX11_goesBy_0 : decode cX11_goesBy 0 = .ok (.aload_n 0, 1) := by decide +kernel
theorem dX11_goesBy_1 : decode cX11_goesBy 1 = .ok (.getfield 13, 3) := by decide +kernel
theorem dX11_goesBy_4 : decode cX11_goesBy 4 = .ok (.iload_n 1, 1) := by decide +kernel
theorem dX11_goesBy_5 : decode cX11_goesBy 5 = .ok (.aload_n 0, 1) := by decide +kernel
theorem dX11_goesBy_6 : decode cX11_goesBy 6 = .ok (.getfield 13, 3) := by decide +kernel
theorem dX11_goesBy_9 : decode cX11_goesBy 9 = .ok (.iload_n 1, 1) := by decide +kernel
theorem dX11_goesBy_10 : decode cX11_goesBy 10 = .ok (.iaload, 1) := by decide +kernel
theorem dX11_goesBy_11 : decode cX11_goesBy 11 = .ok (.iconst 1, 1) := by decide +kernel
theorem dX11_goesBy_12 : decode cX11_goesBy 12 = .ok (.iadd, 1) := by decide +kernel
theorem dX11_goesBy_13 : decode cX11_goesBy 13 = .ok (.iastore, 1) := by decide +kernel
theorem dX11_goesBy_14 : decode cX11_goesBy 14 = .ok (.iconst 0, 1) := by decide +kernel
theorem dX11_goesBy_15 : decode cX11_goesBy 15 = .ok (.istore_n 2, 1) := by decide +kernel
theorem dX11_goesBy_16 : decode cX11_goesBy 16 = .ok (.iload_n 2, 1) := by decide +kernel
theorem dX11_goesBy_17 : decode cX11_goesBy 17 = .ok (.bipush 8, 2) := by decide +kernel
theorem dX11_goesBy_19 : decode cX11_goesBy 19 = .ok (.if_icmp .ge 31, 3) := by decide +kernel
theorem dX11_goesBy_22 : decode cX11_goesBy 22 = .ok (.aload_n 0, 1) := by decide +kernel
theorem dX11_goesBy_23 : decode cX11_goesBy 23 = .ok (.getfield 41, 3) := by decide +kernel
theorem dX11_goesBy_26 : decode cX11_goesBy 26 = .ok (.bipush 8, 2) := by decide +kernel
theorem dX11_goesBy_28 : decode cX11_goesBy 28 = .ok (.iload_n 1, 1) := by decide +kernel
theorem dX11_goesBy_29 : decode cX11_goesBy 29 = .ok (.imul, 1) := by decide +kernel
theorem dX11_goesBy_30 : decode cX11_goesBy 30 = .ok (.iload_n 2, 1) := by decide +kernel
theorem dX11_goesBy_31 : decode cX11_goesBy 31 = .ok (.iadd, 1) := by decide +kernel
theorem dX11_goesBy_32 : decode cX11_goesBy 32 = .ok (.aload_n 0, 1) := by decide +kernel
theorem dX11_goesBy_33 : decode cX11_goesBy 33 = .ok (.getfield 44, 3) := by decide +kernel
theorem dX11_goesBy_36 : decode cX11_goesBy 36 = .ok (.bipush 8, 2) := by decide +kernel
theorem dX11_goesBy_38 : decode cX11_goesBy 38 = .ok (.iload_n 1, 1) := by decide +kernel
theorem dX11_goesBy_39 : decode cX11_goesBy 39 = .ok (.imul, 1) := by decide +kernel
theorem dX11_goesBy_40 : decode cX11_goesBy 40 = .ok (.iload_n 2, 1) := by decide +kernel
theorem dX11_goesBy_41 : decode cX11_goesBy 41 = .ok (.iadd, 1) := by decide +kernel
theorem dX11_goesBy_42 : decode cX11_goesBy 42 = .ok (.iaload, 1) := by decide +kernel
theorem dX11_goesBy_43 : decode cX11_goesBy 43 = .ok (.iastore, 1) := by decide +kernel
theorem dX11_goesBy_44 : decode cX11_goesBy 44 = .ok (.iinc 2 1, 3) := by decide +kernel
theorem dX11_goesBy_47 : decode cX11_goesBy 47 = .ok (.goto (-31), 3) := by decide +kernel
theorem dX11_goesBy_50 : decode cX11_goesBy 50 = .ok (.aload_n 0, 1) := by decide +kernel
theorem dX11_goesBy_51 : decode cX11_goesBy 51 = .ok (.iload_n 1, 1) := by decide +kernel
theorem dX11_goesBy_52 : decode cX11_goesBy 52 = .ok (.invokevirtual 154, 3) := by decide +kernel
theorem dX11_goesBy_55 : decode cX11_goesBy 55 = .ok (.aload_n 0, 1) := by decide +kernel
theorem dX11_goesBy_56 : decode cX11_goesBy 56 = .ok (.iload_n 1, 1) := by decide +kernel
theorem dX11_goesBy_57 : decode cX11_goesBy 57 = .ok (.invokevirtual 157, 3) := by decide +kernel
theorem dX11_goesBy_60 : decode cX11_goesBy 60 = .ok (.aload_n 0, 1) := by decide +kernel
theorem dX11_goesBy_61 : decode cX11_goesBy 61 = .ok (.iload_n 1, 1) := by decide +kernel
theorem dX11_goesBy_62 : decode cX11_goesBy 62 = .ok (.invokevirtual 160, 3) := by decide +kernel
theorem dX11_goesBy_65 : decode cX11_goesBy 65 = .ok (.aload_n 0, 1) := by decide +kernel
theorem dX11_goesBy_66 : decode cX11_goesBy 66 = .ok (.iload_n 1, 1) := by decide +kernel
theorem dX11_goesBy_67 : decode cX11_goesBy 67 = .ok (.invokevirtual 163, 3) := by decide +kernel
theorem dX11_goesBy_70 : decode cX11_goesBy 70 = .ok (.aload_n 0, 1) := by decide +kernel
theorem dX11_goesBy_71 : decode cX11_goesBy 71 = .ok (.iload_n 1, 1) := by decide +kernel
theorem dX11_goesBy_72 : decode cX11_goesBy 72 = .ok (.invokevirtual 166, 3) := by decide +kernel
theorem dX11_goesBy_75 : decode cX11_goesBy 75 = .ok (.aload_n 0, 1) := by decide +kernel
theorem dX11_goesBy_76 : decode cX11_goesBy 76 = .ok (.getfield 16, 3) := by decide +kernel
theorem dX11_goesBy_79 : decode cX11_goesBy 79 = .ok (.iload_n 1, 1) := by decide +kernel
theorem dX11_goesBy_80 : decode cX11_goesBy 80 = .ok (.iconst 0, 1) := by decide +kernel
theorem dX11_goesBy_81 : decode cX11_goesBy 81 = .ok (.iastore, 1) := by decide +kernel
theorem dX11_goesBy_82 : decode cX11_goesBy 82 = .ok (.return_, 1) := by decide +kernel
theorem dX11_isMember_0 : decode cX11_isMember 0 = .ok (.iload_n 2, 1) := by decide +kernel
theorem dX11_isMember_1 : decode cX11_isMember 1 = .ok (.ifCond .lt 17, 3) := by decide +kernel
theorem dX11_isMember_4 : decode cX11_isMember 4 = .ok (.iload_n 2, 1) := by decide +kernel
theorem dX11_isMember_5 : decode cX11_isMember 5 = .ok (.aload_n 0, 1) := by decide +kernel
theorem dX11_isMember_6 : decode cX11_isMember 6 = .ok (.getfield 7, 3) := by decide +kernel
theorem dX11_isMember_9 : decode cX11_isMember 9 = .ok (.iload_n 1, 1) := by decide +kernel
theorem dX11_isMember_10 : decode cX11_isMember 10 = .ok (.iaload, 1) := by decide +kernel
theorem dX11_isMember_11 : decode cX11_isMember 11 = .ok (.if_icmp .ge 7, 3) := by decide +kernel
theorem dX11_isMember_14 : decode cX11_isMember 14 = .ok (.iconst 1, 1) := by decide +kernel
theorem dX11_isMember_15 : decode cX11_isMember 15 = .ok (.goto 4, 3) := by decide +kernel
theorem dX11_isMember_18 : decode cX11_isMember 18 = .ok (.iconst 0, 1) := by decide +kernel
theorem dX11_isMember_19 : decode cX11_isMember 19 = .ok (.ireturn, 1) := by decide +kernel
theorem dX11_isThere_0 : decode cX11_isThere 0 = .ok (.aload_n 0, 1) := by decide +kernel
theorem dX11_isThere_1 : decode cX11_isThere 1 = .ok (.iload_n 1, 1) := by decide +kernel
theorem dX11_isThere_2 : decode cX11_isThere 2 = .ok (.iload_n 2, 1) := by decide +kernel
theorem dX11_isThere_3 : decode cX11_isThere 3 = .ok (.invokevirtual 169, 3) := by decide +kernel
theorem dX11_isThere_6 : decode cX11_isThere 6 = .ok (.ifCond .eq 21, 3) := by decide +kernel
theorem dX11_isThere_9 : decode cX11_isThere 9 = .ok (.aload_n 0, 1) := by decide +kernel
theorem dX11_isThere_10 : decode cX11_isThere 10 = .ok (.getfield 96, 3) := by decide +kernel
theorem dX11_isThere_13 : decode cX11_isThere 13 = .ok (.bipush 12, 2) := by decide +kernel
theorem dX11_isThere_15 : decode cX11_isThere 15 = .ok (.iload_n 1, 1) := by decide +kernel
theorem dX11_isThere_16 : decode cX11_isThere 16 = .ok (.imul, 1) := by decide +kernel
theorem dX11_isThere_17 : decode cX11_isThere 17 = .ok (.iload_n 2, 1) := by decide +kernel
theorem dX11_isThere_18 : decode cX11_isThere 18 = .ok (.iadd, 1) := by decide +kernel
theorem dX11_isThere_19 : decode cX11_isThere 19 = .ok (.baload, 1) := by decide +kernel
theorem dX11_isThere_20 : decode cX11_isThere 20 = .ok (.ifCond .eq 7, 3) := by decide +kernel
theorem dX11_isThere_23 : decode cX11_isThere 23 = .ok (.iconst 1, 1) := by decide +kernel
theorem dX11_isThere_24 : decode cX11_isThere 24 = .ok (.goto 4, 3) := by decide +kernel
theorem dX11_isThere_27 : decode cX11_isThere 27 = .ok (.iconst 0, 1) := by decide +kernel
theorem dX11_isThere_28 : decode cX11_isThere 28 = .ok (.ireturn, 1) := by decide +kernel
theorem dX11_carries_0 : decode cX11_carries 0 = .ok (.iconst 0, 1) := by decide +kernel
theorem dX11_carries_1 : decode cX11_carries 1 = .ok (.istore_n 3, 1) := by decide +kernel
theorem dX11_carries_2 : decode cX11_carries 2 = .ok (.iconst 0, 1) := by decide +kernel
theorem dX11_carries_3 : decode cX11_carries 3 = .ok (.istore 4, 2) := by decide +kernel
theorem dX11_carries_5 : decode cX11_carries 5 = .ok (.iload 4, 2) := by decide +kernel
theorem dX11_carries_7 : decode cX11_carries 7 = .ok (.bipush 12, 2) := by decide +kernel
theorem dX11_carries_9 : decode cX11_carries 9 = .ok (.if_icmp .ge 48, 3) := by decide +kernel
theorem dX11_carries_12 : decode cX11_carries 12 = .ok (.iload_n 2, 1) := by decide +kernel
theorem dX11_carries_13 : decode cX11_carries 13 = .ok (.iload 4, 2) := by decide +kernel
theorem dX11_carries_15 : decode cX11_carries 15 = .ok (.ishr, 1) := by decide +kernel
theorem dX11_carries_16 : decode cX11_carries 16 = .ok (.iconst 1, 1) := by decide +kernel
theorem dX11_carries_17 : decode cX11_carries 17 = .ok (.iand, 1) := by decide +kernel
theorem dX11_carries_18 : decode cX11_carries 18 = .ok (.ifCond .ne 6, 3) := by decide +kernel
theorem dX11_carries_21 : decode cX11_carries 21 = .ok (.goto 30, 3) := by decide +kernel
theorem dX11_carries_24 : decode cX11_carries 24 = .ok (.aload_n 0, 1) := by decide +kernel
theorem dX11_carries_25 : decode cX11_carries 25 = .ok (.iload_n 1, 1) := by decide +kernel
theorem dX11_carries_26 : decode cX11_carries 26 = .ok (.iload 4, 2) := by decide +kernel
theorem dX11_carries_28 : decode cX11_carries 28 = .ok (.invokevirtual 173, 3) := by decide +kernel
theorem dX11_carries_31 : decode cX11_carries 31 = .ok (.ifCond .ne 5, 3) := by decide +kernel
theorem dX11_carries_34 : decode cX11_carries 34 = .ok (.iconst 0, 1) := by decide +kernel
theorem dX11_carries_35 : decode cX11_carries 35 = .ok (.ireturn, 1) := by decide +kernel
theorem dX11_carries_36 : decode cX11_carries 36 = .ok (.iload_n 3, 1) := by decide +kernel
theorem dX11_carries_37 : decode cX11_carries 37 = .ok (.aload_n 0, 1) := by decide +kernel
theorem dX11_carries_38 : decode cX11_carries 38 = .ok (.getfield 51, 3) := by decide +kernel
theorem dX11_carries_41 : decode cX11_carries 41 = .ok (.bipush 12, 2) := by decide +kernel
theorem dX11_carries_43 : decode cX11_carries 43 = .ok (.iload_n 1, 1) := by decide +kernel
theorem dX11_carries_44 : decode cX11_carries 44 = .ok (.imul, 1) := by decide +kernel
theorem dX11_carries_45 : decode cX11_carries 45 = .ok (.iload 4, 2) := by decide +kernel
theorem dX11_carries_47 : decode cX11_carries 47 = .ok (.iadd, 1) := by decide +kernel
theorem dX11_carries_48 : decode cX11_carries 48 = .ok (.iaload, 1) := by decide +kernel
theorem dX11_carries_49 : decode cX11_carries 49 = .ok (.iadd, 1) := by decide +kernel
theorem dX11_carries_50 : decode cX11_carries 50 = .ok (.istore_n 3, 1) := by decide +kernel
theorem dX11_carries_51 : decode cX11_carries 51 = .ok (.iinc 4 1, 3) := by decide +kernel
theorem dX11_carries_54 : decode cX11_carries 54 = .ok (.goto (-49), 3) := by decide +kernel
theorem dX11_carries_57 : decode cX11_carries 57 = .ok (.iconst 2, 1) := by decide +kernel
theorem dX11_carries_58 : decode cX11_carries 58 = .ok (.iload_n 3, 1) := by decide +kernel
theorem dX11_carries_59 : decode cX11_carries 59 = .ok (.imul, 1) := by decide +kernel
theorem dX11_carries_60 : decode cX11_carries 60 = .ok (.aload_n 0, 1) := by decide +kernel
theorem dX11_carries_61 : decode cX11_carries 61 = .ok (.iload_n 1, 1) := by decide +kernel
theorem dX11_carries_62 : decode cX11_carries 62 = .ok (.iconst 0, 1) := by decide +kernel
theorem dX11_carries_63 : decode cX11_carries 63 = .ok (.invokevirtual 146, 3) := by decide +kernel
theorem dX11_carries_66 : decode cX11_carries 66 = .ok (.if_icmp .le 7, 3) := by decide +kernel
theorem dX11_carries_69 : decode cX11_carries 69 = .ok (.iconst 1, 1) := by decide +kernel
theorem dX11_carries_70 : decode cX11_carries 70 = .ok (.goto 4, 3) := by decide +kernel
theorem dX11_carries_73 : decode cX11_carries 73 = .ok (.iconst 0, 1) := by decide +kernel
theorem dX11_carries_74 : decode cX11_carries 74 = .ok (.ireturn, 1) := by decide +kernel
theorem dX11_joins_0 : decode cX11_joins 0 = .ok (.iload_n 2, 1) := by decide +kernel
theorem dX11_joins_1 : decode cX11_joins 1 = .ok (.iconst 1, 1) := by decide +kernel
theorem dX11_joins_2 : decode cX11_joins 2 = .ok (.if_icmp .lt 19, 3) := by decide +kernel
theorem dX11_joins_5 : decode cX11_joins 5 = .ok (.iload_n 2, 1) := by decide +kernel
theorem dX11_joins_6 : decode cX11_joins 6 = .ok (.iconst 5, 1) := by decide +kernel
theorem dX11_joins_7 : decode cX11_joins 7 = .ok (.if_icmp .gt 14, 3) := by decide +kernel
theorem dX11_joins_10 : decode cX11_joins 10 = .ok (.aload_n 0, 1) := by decide +kernel
theorem dX11_joins_11 : decode cX11_joins 11 = .ok (.getfield 7, 3) := by decide +kernel
theorem dX11_joins_14 : decode cX11_joins 14 = .ok (.iload_n 1, 1) := by decide +kernel
theorem dX11_joins_15 : decode cX11_joins 15 = .ok (.iaload, 1) := by decide +kernel
theorem dX11_joins_16 : decode cX11_joins 16 = .ok (.bipush 12, 2) := by decide +kernel
theorem dX11_joins_18 : decode cX11_joins 18 = .ok (.if_icmp .ne 5, 3) := by decide +kernel
theorem dX11_joins_21 : decode cX11_joins 21 = .ok (.iconst 0, 1) := by decide +kernel
theorem dX11_joins_22 : decode cX11_joins 22 = .ok (.ireturn, 1) := by decide +kernel
theorem dX11_joins_23 : decode cX11_joins 23 = .ok (.bipush 12, 2) := by decide +kernel
theorem dX11_joins_25 : decode cX11_joins 25 = .ok (.iload_n 1, 1) := by decide +kernel
theorem dX11_joins_26 : decode cX11_joins 26 = .ok (.imul, 1) := by decide +kernel
theorem dX11_joins_27 : decode cX11_joins 27 = .ok (.aload_n 0, 1) := by decide +kernel
theorem dX11_joins_28 : decode cX11_joins 28 = .ok (.getfield 7, 3) := by decide +kernel
theorem dX11_joins_31 : decode cX11_joins 31 = .ok (.iload_n 1, 1) := by decide +kernel
theorem dX11_joins_32 : decode cX11_joins 32 = .ok (.iaload, 1) := by decide +kernel
theorem dX11_joins_33 : decode cX11_joins 33 = .ok (.iadd, 1) := by decide +kernel
theorem dX11_joins_34 : decode cX11_joins 34 = .ok (.istore_n 3, 1) := by decide +kernel
theorem dX11_joins_35 : decode cX11_joins 35 = .ok (.aload_n 0, 1) := by decide +kernel
theorem dX11_joins_36 : decode cX11_joins 36 = .ok (.getfield 51, 3) := by decide +kernel
theorem dX11_joins_39 : decode cX11_joins 39 = .ok (.iload_n 3, 1) := by decide +kernel
theorem dX11_joins_40 : decode cX11_joins 40 = .ok (.iload_n 2, 1) := by decide +kernel
theorem dX11_joins_41 : decode cX11_joins 41 = .ok (.iastore, 1) := by decide +kernel
theorem dX11_joins_42 : decode cX11_joins 42 = .ok (.aload_n 0, 1) := by decide +kernel
theorem dX11_joins_43 : decode cX11_joins 43 = .ok (.getfield 96, 3) := by decide +kernel
theorem dX11_joins_46 : decode cX11_joins 46 = .ok (.iload_n 3, 1) := by decide +kernel
theorem dX11_joins_47 : decode cX11_joins 47 = .ok (.iconst 1, 1) := by decide +kernel
theorem dX11_joins_48 : decode cX11_joins 48 = .ok (.bastore, 1) := by decide +kernel
theorem dX11_joins_49 : decode cX11_joins 49 = .ok (.aload_n 0, 1) := by decide +kernel
theorem dX11_joins_50 : decode cX11_joins 50 = .ok (.getfield 99, 3) := by decide +kernel
theorem dX11_joins_53 : decode cX11_joins 53 = .ok (.iload_n 3, 1) := by decide +kernel
theorem dX11_joins_54 : decode cX11_joins 54 = .ok (.iconst 0, 1) := by decide +kernel
theorem dX11_joins_55 : decode cX11_joins 55 = .ok (.bastore, 1) := by decide +kernel
theorem dX11_joins_56 : decode cX11_joins 56 = .ok (.aload_n 0, 1) := by decide +kernel
theorem dX11_joins_57 : decode cX11_joins 57 = .ok (.getfield 102, 3) := by decide +kernel
theorem dX11_joins_60 : decode cX11_joins 60 = .ok (.iload_n 3, 1) := by decide +kernel
theorem dX11_joins_61 : decode cX11_joins 61 = .ok (.iconst 0, 1) := by decide +kernel
theorem dX11_joins_62 : decode cX11_joins 62 = .ok (.bastore, 1) := by decide +kernel
theorem dX11_joins_63 : decode cX11_joins 63 = .ok (.aload_n 0, 1) := by decide +kernel
theorem dX11_joins_64 : decode cX11_joins 64 = .ok (.getfield 54, 3) := by decide +kernel
theorem dX11_joins_67 : decode cX11_joins 67 = .ok (.iload_n 3, 1) := by decide +kernel
theorem dX11_joins_68 : decode cX11_joins 68 = .ok (.iconst 0, 1) := by decide +kernel
theorem dX11_joins_69 : decode cX11_joins 69 = .ok (.iastore, 1) := by decide +kernel
theorem dX11_joins_70 : decode cX11_joins 70 = .ok (.aload_n 0, 1) := by decide +kernel
theorem dX11_joins_71 : decode cX11_joins 71 = .ok (.getfield 57, 3) := by decide +kernel
theorem dX11_joins_74 : decode cX11_joins 74 = .ok (.iload_n 3, 1) := by decide +kernel
theorem dX11_joins_75 : decode cX11_joins 75 = .ok (.iconst 0, 1) := by decide +kernel
theorem dX11_joins_76 : decode cX11_joins 76 = .ok (.iastore, 1) := by decide +kernel
theorem dX11_joins_77 : decode cX11_joins 77 = .ok (.aload_n 0, 1) := by decide +kernel
theorem dX11_joins_78 : decode cX11_joins 78 = .ok (.getfield 60, 3) := by decide +kernel
theorem dX11_joins_81 : decode cX11_joins 81 = .ok (.iload_n 3, 1) := by decide +kernel
theorem dX11_joins_82 : decode cX11_joins 82 = .ok (.iconst (-1), 1) := by decide +kernel
theorem dX11_joins_83 : decode cX11_joins 83 = .ok (.iastore, 1) := by decide +kernel
theorem dX11_joins_84 : decode cX11_joins 84 = .ok (.aload_n 0, 1) := by decide +kernel
theorem dX11_joins_85 : decode cX11_joins 85 = .ok (.getfield 63, 3) := by decide +kernel
theorem dX11_joins_88 : decode cX11_joins 88 = .ok (.iload_n 3, 1) := by decide +kernel
theorem dX11_joins_89 : decode cX11_joins 89 = .ok (.iconst 0, 1) := by decide +kernel
theorem dX11_joins_90 : decode cX11_joins 90 = .ok (.iastore, 1) := by decide +kernel
theorem dX11_joins_91 : decode cX11_joins 91 = .ok (.aload_n 0, 1) := by decide +kernel
theorem dX11_joins_92 : decode cX11_joins 92 = .ok (.getfield 66, 3) := by decide +kernel
theorem dX11_joins_95 : decode cX11_joins 95 = .ok (.iload_n 3, 1) := by decide +kernel
theorem dX11_joins_96 : decode cX11_joins 96 = .ok (.iconst 0, 1) := by decide +kernel
theorem dX11_joins_97 : decode cX11_joins 97 = .ok (.iastore, 1) := by decide +kernel
theorem dX11_joins_98 : decode cX11_joins 98 = .ok (.aload_n 0, 1) := by decide +kernel
theorem dX11_joins_99 : decode cX11_joins 99 = .ok (.getfield 72, 3) := by decide +kernel
theorem dX11_joins_102 : decode cX11_joins 102 = .ok (.iload_n 3, 1) := by decide +kernel
theorem dX11_joins_103 : decode cX11_joins 103 = .ok (.lconst 0, 1) := by decide +kernel
theorem dX11_joins_104 : decode cX11_joins 104 = .ok (.lastore, 1) := by decide +kernel
theorem dX11_joins_105 : decode cX11_joins 105 = .ok (.aload_n 0, 1) := by decide +kernel
theorem dX11_joins_106 : decode cX11_joins 106 = .ok (.getfield 75, 3) := by decide +kernel
theorem dX11_joins_109 : decode cX11_joins 109 = .ok (.iload_n 3, 1) := by decide +kernel
theorem dX11_joins_110 : decode cX11_joins 110 = .ok (.lconst 0, 1) := by decide +kernel
theorem dX11_joins_111 : decode cX11_joins 111 = .ok (.lastore, 1) := by decide +kernel
theorem dX11_joins_112 : decode cX11_joins 112 = .ok (.aload_n 0, 1) := by decide +kernel
theorem dX11_joins_113 : decode cX11_joins 113 = .ok (.getfield 78, 3) := by decide +kernel
theorem dX11_joins_116 : decode cX11_joins 116 = .ok (.iload_n 3, 1) := by decide +kernel
theorem dX11_joins_117 : decode cX11_joins 117 = .ok (.lconst 0, 1) := by decide +kernel
theorem dX11_joins_118 : decode cX11_joins 118 = .ok (.lastore, 1) := by decide +kernel
theorem dX11_joins_119 : decode cX11_joins 119 = .ok (.aload_n 0, 1) := by decide +kernel
theorem dX11_joins_120 : decode cX11_joins 120 = .ok (.getfield 81, 3) := by decide +kernel
theorem dX11_joins_123 : decode cX11_joins 123 = .ok (.iload_n 3, 1) := by decide +kernel
theorem dX11_joins_124 : decode cX11_joins 124 = .ok (.lconst 0, 1) := by decide +kernel
theorem dX11_joins_125 : decode cX11_joins 125 = .ok (.lastore, 1) := by decide +kernel
theorem dX11_joins_126 : decode cX11_joins 126 = .ok (.aload_n 0, 1) := by decide +kernel
theorem dX11_joins_127 : decode cX11_joins 127 = .ok (.getfield 84, 3) := by decide +kernel
theorem dX11_joins_130 : decode cX11_joins 130 = .ok (.iload_n 3, 1) := by decide +kernel
theorem dX11_joins_131 : decode cX11_joins 131 = .ok (.lconst 0, 1) := by decide +kernel
theorem dX11_joins_132 : decode cX11_joins 132 = .ok (.lastore, 1) := by decide +kernel
theorem dX11_joins_133 : decode cX11_joins 133 = .ok (.aload_n 0, 1) := by decide +kernel
theorem dX11_joins_134 : decode cX11_joins 134 = .ok (.getfield 87, 3) := by decide +kernel
theorem dX11_joins_137 : decode cX11_joins 137 = .ok (.iload_n 3, 1) := by decide +kernel
theorem dX11_joins_138 : decode cX11_joins 138 = .ok (.lconst 0, 1) := by decide +kernel
theorem dX11_joins_139 : decode cX11_joins 139 = .ok (.lastore, 1) := by decide +kernel
theorem dX11_joins_140 : decode cX11_joins 140 = .ok (.aload_n 0, 1) := by decide +kernel
theorem dX11_joins_141 : decode cX11_joins 141 = .ok (.getfield 90, 3) := by decide +kernel
theorem dX11_joins_144 : decode cX11_joins 144 = .ok (.iload_n 3, 1) := by decide +kernel
theorem dX11_joins_145 : decode cX11_joins 145 = .ok (.lconst 0, 1) := by decide +kernel
theorem dX11_joins_146 : decode cX11_joins 146 = .ok (.lastore, 1) := by decide +kernel
theorem dX11_joins_147 : decode cX11_joins 147 = .ok (.aload_n 0, 1) := by decide +kernel
theorem dX11_joins_148 : decode cX11_joins 148 = .ok (.getfield 93, 3) := by decide +kernel
theorem dX11_joins_151 : decode cX11_joins 151 = .ok (.iload_n 3, 1) := by decide +kernel
theorem dX11_joins_152 : decode cX11_joins 152 = .ok (.lconst 0, 1) := by decide +kernel
theorem dX11_joins_153 : decode cX11_joins 153 = .ok (.lastore, 1) := by decide +kernel
theorem dX11_joins_154 : decode cX11_joins 154 = .ok (.aload_n 0, 1) := by decide +kernel
theorem dX11_joins_155 : decode cX11_joins 155 = .ok (.getfield 7, 3) := by decide +kernel
theorem dX11_joins_158 : decode cX11_joins 158 = .ok (.iload_n 1, 1) := by decide +kernel
theorem dX11_joins_159 : decode cX11_joins 159 = .ok (.aload_n 0, 1) := by decide +kernel
theorem dX11_joins_160 : decode cX11_joins 160 = .ok (.getfield 7, 3) := by decide +kernel
theorem dX11_joins_163 : decode cX11_joins 163 = .ok (.iload_n 1, 1) := by decide +kernel
theorem dX11_joins_164 : decode cX11_joins 164 = .ok (.iaload, 1) := by decide +kernel
theorem dX11_joins_165 : decode cX11_joins 165 = .ok (.iconst 1, 1) := by decide +kernel
theorem dX11_joins_166 : decode cX11_joins 166 = .ok (.iadd, 1) := by decide +kernel
theorem dX11_joins_167 : decode cX11_joins 167 = .ok (.iastore, 1) := by decide +kernel
theorem dX11_joins_168 : decode cX11_joins 168 = .ok (.iconst 1, 1) := by decide +kernel
theorem dX11_joins_169 : decode cX11_joins 169 = .ok (.ireturn, 1) := by decide +kernel
theorem dX11_leaves_0 : decode cX11_leaves 0 = .ok (.aload_n 0, 1) := by decide +kernel
theorem dX11_leaves_1 : decode cX11_leaves 1 = .ok (.iload_n 1, 1) := by decide +kernel
theorem dX11_leaves_2 : decode cX11_leaves 2 = .ok (.iload_n 2, 1) := by decide +kernel
theorem dX11_leaves_3 : decode cX11_leaves 3 = .ok (.invokevirtual 173, 3) := by decide +kernel
theorem dX11_leaves_6 : decode cX11_leaves 6 = .ok (.ifCond .eq 17, 3) := by decide +kernel
theorem dX11_leaves_9 : decode cX11_leaves 9 = .ok (.aload_n 0, 1) := by decide +kernel
theorem dX11_leaves_10 : decode cX11_leaves 10 = .ok (.getfield 99, 3) := by decide +kernel
theorem dX11_leaves_13 : decode cX11_leaves 13 = .ok (.bipush 12, 2) := by decide +kernel
theorem dX11_leaves_15 : decode cX11_leaves 15 = .ok (.iload_n 1, 1) := by decide +kernel
theorem dX11_leaves_16 : decode cX11_leaves 16 = .ok (.imul, 1) := by decide +kernel
theorem dX11_leaves_17 : decode cX11_leaves 17 = .ok (.iload_n 2, 1) := by decide +kernel
theorem dX11_leaves_18 : decode cX11_leaves 18 = .ok (.iadd, 1) := by decide +kernel
theorem dX11_leaves_19 : decode cX11_leaves 19 = .ok (.baload, 1) := by decide +kernel
theorem dX11_leaves_20 : decode cX11_leaves 20 = .ok (.ifCond .eq 5, 3) := by decide +kernel
theorem dX11_leaves_23 : decode cX11_leaves 23 = .ok (.iconst 0, 1) := by decide +kernel
theorem dX11_leaves_24 : decode cX11_leaves 24 = .ok (.ireturn, 1) := by decide +kernel
theorem dX11_leaves_25 : decode cX11_leaves 25 = .ok (.bipush 12, 2) := by decide +kernel
theorem dX11_leaves_27 : decode cX11_leaves 27 = .ok (.iload_n 1, 1) := by decide +kernel
theorem dX11_leaves_28 : decode cX11_leaves 28 = .ok (.imul, 1) := by decide +kernel
theorem dX11_leaves_29 : decode cX11_leaves 29 = .ok (.iload_n 2, 1) := by decide +kernel
theorem dX11_leaves_30 : decode cX11_leaves 30 = .ok (.iadd, 1) := by decide +kernel
theorem dX11_leaves_31 : decode cX11_leaves 31 = .ok (.istore_n 3, 1) := by decide +kernel
theorem dX11_leaves_32 : decode cX11_leaves 32 = .ok (.aload_n 0, 1) := by decide +kernel
theorem dX11_leaves_33 : decode cX11_leaves 33 = .ok (.getfield 87, 3) := by decide +kernel
theorem dX11_leaves_36 : decode cX11_leaves 36 = .ok (.iload_n 3, 1) := by decide +kernel
theorem dX11_leaves_37 : decode cX11_leaves 37 = .ok (.aload_n 0, 1) := by decide +kernel
theorem dX11_leaves_38 : decode cX11_leaves 38 = .ok (.getfield 78, 3) := by decide +kernel
theorem dX11_leaves_41 : decode cX11_leaves 41 = .ok (.iload_n 3, 1) := by decide +kernel
theorem dX11_leaves_42 : decode cX11_leaves 42 = .ok (.laload, 1) := by decide +kernel
theorem dX11_leaves_43 : decode cX11_leaves 43 = .ok (.aload_n 0, 1) := by decide +kernel
theorem dX11_leaves_44 : decode cX11_leaves 44 = .ok (.getfield 41, 3) := by decide +kernel
theorem dX11_leaves_47 : decode cX11_leaves 47 = .ok (.bipush 8, 2) := by decide +kernel
theorem dX11_leaves_49 : decode cX11_leaves 49 = .ok (.iload_n 1, 1) := by decide +kernel
theorem dX11_leaves_50 : decode cX11_leaves 50 = .ok (.imul, 1) := by decide +kernel
theorem dX11_leaves_51 : decode cX11_leaves 51 = .ok (.bipush 6, 2) := by decide +kernel
theorem dX11_leaves_53 : decode cX11_leaves 53 = .ok (.iadd, 1) := by decide +kernel
theorem dX11_leaves_54 : decode cX11_leaves 54 = .ok (.iaload, 1) := by decide +kernel
theorem dX11_leaves_55 : decode cX11_leaves 55 = .ok (.i2l, 1) := by decide +kernel
theorem dX11_leaves_56 : decode cX11_leaves 56 = .ok (.lmul, 1) := by decide +kernel
theorem dX11_leaves_57 : decode cX11_leaves 57 = .ok (.ldc2_w 176, 3) := by decide +kernel
theorem dX11_leaves_60 : decode cX11_leaves 60 = .ok (.ldiv, 1) := by decide +kernel
theorem dX11_leaves_61 : decode cX11_leaves 61 = .ok (.aload_n 0, 1) := by decide +kernel
theorem dX11_leaves_62 : decode cX11_leaves 62 = .ok (.getfield 72, 3) := by decide +kernel
theorem dX11_leaves_65 : decode cX11_leaves 65 = .ok (.iload_n 3, 1) := by decide +kernel
theorem dX11_leaves_66 : decode cX11_leaves 66 = .ok (.laload, 1) := by decide +kernel
theorem dX11_leaves_67 : decode cX11_leaves 67 = .ok (.ladd, 1) := by decide +kernel
theorem dX11_leaves_68 : decode cX11_leaves 68 = .ok (.lastore, 1) := by decide +kernel
theorem dX11_leaves_69 : decode cX11_leaves 69 = .ok (.aload_n 0, 1) := by decide +kernel
theorem dX11_leaves_70 : decode cX11_leaves 70 = .ok (.getfield 90, 3) := by decide +kernel
theorem dX11_leaves_73 : decode cX11_leaves 73 = .ok (.iload_n 3, 1) := by decide +kernel
theorem dX11_leaves_74 : decode cX11_leaves 74 = .ok (.ldc2_w 178, 3) := by decide +kernel
theorem dX11_leaves_77 : decode cX11_leaves 77 = .ok (.lastore, 1) := by decide +kernel
theorem dX11_leaves_78 : decode cX11_leaves 78 = .ok (.aload_n 0, 1) := by decide +kernel
theorem dX11_leaves_79 : decode cX11_leaves 79 = .ok (.getfield 25, 3) := by decide +kernel
theorem dX11_leaves_82 : decode cX11_leaves 82 = .ok (.iload_n 1, 1) := by decide +kernel
theorem dX11_leaves_83 : decode cX11_leaves 83 = .ok (.aload_n 0, 1) := by decide +kernel
theorem dX11_leaves_84 : decode cX11_leaves 84 = .ok (.getfield 25, 3) := by decide +kernel
theorem dX11_leaves_87 : decode cX11_leaves 87 = .ok (.iload_n 1, 1) := by decide +kernel
theorem dX11_leaves_88 : decode cX11_leaves 88 = .ok (.laload, 1) := by decide +kernel
theorem dX11_leaves_89 : decode cX11_leaves 89 = .ok (.aload_n 0, 1) := by decide +kernel
theorem dX11_leaves_90 : decode cX11_leaves 90 = .ok (.getfield 72, 3) := by decide +kernel
theorem dX11_leaves_93 : decode cX11_leaves 93 = .ok (.iload_n 3, 1) := by decide +kernel
theorem dX11_leaves_94 : decode cX11_leaves 94 = .ok (.laload, 1) := by decide +kernel
theorem dX11_leaves_95 : decode cX11_leaves 95 = .ok (.ladd, 1) := by decide +kernel
theorem dX11_leaves_96 : decode cX11_leaves 96 = .ok (.lastore, 1) := by decide +kernel
theorem dX11_leaves_97 : decode cX11_leaves 97 = .ok (.aload_n 0, 1) := by decide +kernel
theorem dX11_leaves_98 : decode cX11_leaves 98 = .ok (.getfield 72, 3) := by decide +kernel
theorem dX11_leaves_101 : decode cX11_leaves 101 = .ok (.iload_n 3, 1) := by decide +kernel
theorem dX11_leaves_102 : decode cX11_leaves 102 = .ok (.lconst 0, 1) := by decide +kernel
theorem dX11_leaves_103 : decode cX11_leaves 103 = .ok (.lastore, 1) := by decide +kernel
theorem dX11_leaves_104 : decode cX11_leaves 104 = .ok (.aload_n 0, 1) := by decide +kernel
theorem dX11_leaves_105 : decode cX11_leaves 105 = .ok (.getfield 75, 3) := by decide +kernel
theorem dX11_leaves_108 : decode cX11_leaves 108 = .ok (.iload_n 3, 1) := by decide +kernel
theorem dX11_leaves_109 : decode cX11_leaves 109 = .ok (.lconst 0, 1) := by decide +kernel
theorem dX11_leaves_110 : decode cX11_leaves 110 = .ok (.lastore, 1) := by decide +kernel
theorem dX11_leaves_111 : decode cX11_leaves 111 = .ok (.aload_n 0, 1) := by decide +kernel
theorem dX11_leaves_112 : decode cX11_leaves 112 = .ok (.getfield 63, 3) := by decide +kernel
theorem dX11_leaves_115 : decode cX11_leaves 115 = .ok (.iload_n 3, 1) := by decide +kernel
theorem dX11_leaves_116 : decode cX11_leaves 116 = .ok (.iconst 0, 1) := by decide +kernel
theorem dX11_leaves_117 : decode cX11_leaves 117 = .ok (.iastore, 1) := by decide +kernel
theorem dX11_leaves_118 : decode cX11_leaves 118 = .ok (.aload_n 0, 1) := by decide +kernel
theorem dX11_leaves_119 : decode cX11_leaves 119 = .ok (.getfield 96, 3) := by decide +kernel
theorem dX11_leaves_122 : decode cX11_leaves 122 = .ok (.iload_n 3, 1) := by decide +kernel
theorem dX11_leaves_123 : decode cX11_leaves 123 = .ok (.iconst 0, 1) := by decide +kernel
theorem dX11_leaves_124 : decode cX11_leaves 124 = .ok (.bastore, 1) := by decide +kernel
theorem dX11_leaves_125 : decode cX11_leaves 125 = .ok (.aload_n 0, 1) := by decide +kernel
theorem dX11_leaves_126 : decode cX11_leaves 126 = .ok (.getfield 66, 3) := by decide +kernel
theorem dX11_leaves_129 : decode cX11_leaves 129 = .ok (.iload_n 3, 1) := by decide +kernel
theorem dX11_leaves_130 : decode cX11_leaves 130 = .ok (.aload_n 0, 1) := by decide +kernel
theorem dX11_leaves_131 : decode cX11_leaves 131 = .ok (.getfield 13, 3) := by decide +kernel
theorem dX11_leaves_134 : decode cX11_leaves 134 = .ok (.iload_n 1, 1) := by decide +kernel
theorem dX11_leaves_135 : decode cX11_leaves 135 = .ok (.iaload, 1) := by decide +kernel
theorem dX11_leaves_136 : decode cX11_leaves 136 = .ok (.aload_n 0, 1) := by decide +kernel
theorem dX11_leaves_137 : decode cX11_leaves 137 = .ok (.getfield 41, 3) := by decide +kernel
theorem dX11_leaves_140 : decode cX11_leaves 140 = .ok (.bipush 8, 2) := by decide +kernel
theorem dX11_leaves_142 : decode cX11_leaves 142 = .ok (.iload_n 1, 1) := by decide +kernel
theorem dX11_leaves_143 : decode cX11_leaves 143 = .ok (.imul, 1) := by decide +kernel
theorem dX11_leaves_144 : decode cX11_leaves 144 = .ok (.bipush 7, 2) := by decide +kernel
theorem dX11_leaves_146 : decode cX11_leaves 146 = .ok (.iadd, 1) := by decide +kernel
theorem dX11_leaves_147 : decode cX11_leaves 147 = .ok (.iaload, 1) := by decide +kernel
theorem dX11_leaves_148 : decode cX11_leaves 148 = .ok (.iadd, 1) := by decide +kernel
theorem dX11_leaves_149 : decode cX11_leaves 149 = .ok (.iastore, 1) := by decide +kernel
theorem dX11_leaves_150 : decode cX11_leaves 150 = .ok (.aload_n 0, 1) := by decide +kernel
theorem dX11_leaves_151 : decode cX11_leaves 151 = .ok (.getfield 69, 3) := by decide +kernel
theorem dX11_leaves_154 : decode cX11_leaves 154 = .ok (.bipush 12, 2) := by decide +kernel
theorem dX11_leaves_156 : decode cX11_leaves 156 = .ok (.iload_n 1, 1) := by decide +kernel
theorem dX11_leaves_157 : decode cX11_leaves 157 = .ok (.imul, 1) := by decide +kernel
theorem dX11_leaves_158 : decode cX11_leaves 158 = .ok (.aload_n 0, 1) := by decide +kernel
theorem dX11_leaves_159 : decode cX11_leaves 159 = .ok (.getfield 19, 3) := by decide +kernel
theorem dX11_leaves_162 : decode cX11_leaves 162 = .ok (.iload_n 1, 1) := by decide +kernel
theorem dX11_leaves_163 : decode cX11_leaves 163 = .ok (.iaload, 1) := by decide +kernel
theorem dX11_leaves_164 : decode cX11_leaves 164 = .ok (.iadd, 1) := by decide +kernel
theorem dX11_leaves_165 : decode cX11_leaves 165 = .ok (.iload_n 2, 1) := by decide +kernel
theorem dX11_leaves_166 : decode cX11_leaves 166 = .ok (.iastore, 1) := by decide +kernel
theorem dX11_leaves_167 : decode cX11_leaves 167 = .ok (.aload_n 0, 1) := by decide +kernel
theorem dX11_leaves_168 : decode cX11_leaves 168 = .ok (.getfield 19, 3) := by decide +kernel
theorem dX11_leaves_171 : decode cX11_leaves 171 = .ok (.iload_n 1, 1) := by decide +kernel
theorem dX11_leaves_172 : decode cX11_leaves 172 = .ok (.aload_n 0, 1) := by decide +kernel
theorem dX11_leaves_173 : decode cX11_leaves 173 = .ok (.getfield 19, 3) := by decide +kernel
theorem dX11_leaves_176 : decode cX11_leaves 176 = .ok (.iload_n 1, 1) := by decide +kernel
theorem dX11_leaves_177 : decode cX11_leaves 177 = .ok (.iaload, 1) := by decide +kernel
theorem dX11_leaves_178 : decode cX11_leaves 178 = .ok (.iconst 1, 1) := by decide +kernel
theorem dX11_leaves_179 : decode cX11_leaves 179 = .ok (.iadd, 1) := by decide +kernel
theorem dX11_leaves_180 : decode cX11_leaves 180 = .ok (.iastore, 1) := by decide +kernel
theorem dX11_leaves_181 : decode cX11_leaves 181 = .ok (.iconst 1, 1) := by decide +kernel
theorem dX11_leaves_182 : decode cX11_leaves 182 = .ok (.ireturn, 1) := by decide +kernel
theorem dX11_fails_0 : decode cX11_fails 0 = .ok (.aload_n 0, 1) := by decide +kernel
theorem dX11_fails_1 : decode cX11_fails 1 = .ok (.iload_n 1, 1) := by decide +kernel
theorem dX11_fails_2 : decode cX11_fails 2 = .ok (.iload_n 2, 1) := by decide +kernel
theorem dX11_fails_3 : decode cX11_fails 3 = .ok (.invokevirtual 169, 3) := by decide +kernel
theorem dX11_fails_6 : decode cX11_fails 6 = .ok (.ifCond .ne 5, 3) := by decide +kernel
theorem dX11_fails_9 : decode cX11_fails 9 = .ok (.iconst 0, 1) := by decide +kernel
theorem dX11_fails_10 : decode cX11_fails 10 = .ok (.ireturn, 1) := by decide +kernel
theorem dX11_fails_11 : decode cX11_fails 11 = .ok (.bipush 12, 2) := by decide +kernel
theorem dX11_fails_13 : decode cX11_fails 13 = .ok (.iload_n 1, 1) := by decide +kernel
theorem dX11_fails_14 : decode cX11_fails 14 = .ok (.imul, 1) := by decide +kernel
theorem dX11_fails_15 : decode cX11_fails 15 = .ok (.iload_n 2, 1) := by decide +kernel
theorem dX11_fails_16 : decode cX11_fails 16 = .ok (.iadd, 1) := by decide +kernel
theorem dX11_fails_17 : decode cX11_fails 17 = .ok (.istore_n 3, 1) := by decide +kernel
theorem dX11_fails_18 : decode cX11_fails 18 = .ok (.aload_n 0, 1) := by decide +kernel
theorem dX11_fails_19 : decode cX11_fails 19 = .ok (.iload_n 3, 1) := by decide +kernel
theorem dX11_fails_20 : decode cX11_fails 20 = .ok (.invokevirtual 135, 3) := by decide +kernel
theorem dX11_fails_23 : decode cX11_fails 23 = .ok (.ifCond .eq 23, 3) := by decide +kernel
theorem dX11_fails_26 : decode cX11_fails 26 = .ok (.aload_n 0, 1) := by decide +kernel
theorem dX11_fails_27 : decode cX11_fails 27 = .ok (.getfield 57, 3) := by decide +kernel
theorem dX11_fails_30 : decode cX11_fails 30 = .ok (.iload_n 3, 1) := by decide +kernel
theorem dX11_fails_31 : decode cX11_fails 31 = .ok (.iaload, 1) := by decide +kernel
theorem dX11_fails_32 : decode cX11_fails 32 = .ok (.ifCond .eq 14, 3) := by decide +kernel
theorem dX11_fails_35 : decode cX11_fails 35 = .ok (.aload_n 0, 1) := by decide +kernel
theorem dX11_fails_36 : decode cX11_fails 36 = .ok (.getfield 84, 3) := by decide +kernel
theorem dX11_fails_39 : decode cX11_fails 39 = .ok (.iload_n 3, 1) := by decide +kernel
theorem dX11_fails_40 : decode cX11_fails 40 = .ok (.laload, 1) := by decide +kernel
theorem dX11_fails_41 : decode cX11_fails 41 = .ok (.lconst 0, 1) := by decide +kernel
theorem dX11_fails_42 : decode cX11_fails 42 = .ok (.lcmp, 1) := by decide +kernel
theorem dX11_fails_43 : decode cX11_fails 43 = .ok (.ifCond .le 5, 3) := by decide +kernel
theorem dX11_fails_46 : decode cX11_fails 46 = .ok (.iconst 0, 1) := by decide +kernel
theorem dX11_fails_47 : decode cX11_fails 47 = .ok (.ireturn, 1) := by decide +kernel
theorem dX11_fails_48 : decode cX11_fails 48 = .ok (.aload_n 0, 1) := by decide +kernel
theorem dX11_fails_49 : decode cX11_fails 49 = .ok (.getfield 57, 3) := by decide +kernel
theorem dX11_fails_52 : decode cX11_fails 52 = .ok (.iload_n 3, 1) := by decide +kernel
theorem dX11_fails_53 : decode cX11_fails 53 = .ok (.aload_n 0, 1) := by decide +kernel
theorem dX11_fails_54 : decode cX11_fails 54 = .ok (.getfield 57, 3) := by decide +kernel
theorem dX11_fails_57 : decode cX11_fails 57 = .ok (.iload_n 3, 1) := by decide +kernel
theorem dX11_fails_58 : decode cX11_fails 58 = .ok (.iaload, 1) := by decide +kernel
theorem dX11_fails_59 : decode cX11_fails 59 = .ok (.iconst 1, 1) := by decide +kernel
theorem dX11_fails_60 : decode cX11_fails 60 = .ok (.isub, 1) := by decide +kernel
theorem dX11_fails_61 : decode cX11_fails 61 = .ok (.iastore, 1) := by decide +kernel
theorem dX11_fails_62 : decode cX11_fails 62 = .ok (.aload_n 0, 1) := by decide +kernel
theorem dX11_fails_63 : decode cX11_fails 63 = .ok (.getfield 102, 3) := by decide +kernel
theorem dX11_fails_66 : decode cX11_fails 66 = .ok (.iload_n 3, 1) := by decide +kernel
theorem dX11_fails_67 : decode cX11_fails 67 = .ok (.iconst 0, 1) := by decide +kernel
theorem dX11_fails_68 : decode cX11_fails 68 = .ok (.bastore, 1) := by decide +kernel
theorem dX11_fails_69 : decode cX11_fails 69 = .ok (.aload_n 0, 1) := by decide +kernel
theorem dX11_fails_70 : decode cX11_fails 70 = .ok (.getfield 25, 3) := by decide +kernel
theorem dX11_fails_73 : decode cX11_fails 73 = .ok (.iload_n 1, 1) := by decide +kernel
theorem dX11_fails_74 : decode cX11_fails 74 = .ok (.laload, 1) := by decide +kernel
theorem dX11_fails_75 : decode cX11_fails 75 = .ok (.aload_n 0, 1) := by decide +kernel
theorem dX11_fails_76 : decode cX11_fails 76 = .ok (.getfield 93, 3) := by decide +kernel
theorem dX11_fails_79 : decode cX11_fails 79 = .ok (.iload_n 3, 1) := by decide +kernel
theorem dX11_fails_80 : decode cX11_fails 80 = .ok (.laload, 1) := by decide +kernel
theorem dX11_fails_81 : decode cX11_fails 81 = .ok (.lcmp, 1) := by decide +kernel
theorem dX11_fails_82 : decode cX11_fails 82 = .ok (.ifCond .lt 44, 3) := by decide +kernel
theorem dX11_fails_85 : decode cX11_fails 85 = .ok (.aload_n 0, 1) := by decide +kernel
theorem dX11_fails_86 : decode cX11_fails 86 = .ok (.getfield 25, 3) := by decide +kernel
theorem dX11_fails_89 : decode cX11_fails 89 = .ok (.iload_n 1, 1) := by decide +kernel
theorem dX11_fails_90 : decode cX11_fails 90 = .ok (.aload_n 0, 1) := by decide +kernel
theorem dX11_fails_91 : decode cX11_fails 91 = .ok (.getfield 25, 3) := by decide +kernel
theorem dX11_fails_94 : decode cX11_fails 94 = .ok (.iload_n 1, 1) := by decide +kernel
theorem dX11_fails_95 : decode cX11_fails 95 = .ok (.laload, 1) := by decide +kernel
theorem dX11_fails_96 : decode cX11_fails 96 = .ok (.aload_n 0, 1) := by decide +kernel
theorem dX11_fails_97 : decode cX11_fails 97 = .ok (.getfield 93, 3) := by decide +kernel
theorem dX11_fails_100 : decode cX11_fails 100 = .ok (.iload_n 3, 1) := by decide +kernel
theorem dX11_fails_101 : decode cX11_fails 101 = .ok (.laload, 1) := by decide +kernel
theorem dX11_fails_102 : decode cX11_fails 102 = .ok (.lsub, 1) := by decide +kernel
theorem dX11_fails_103 : decode cX11_fails 103 = .ok (.lastore, 1) := by decide +kernel
theorem dX11_fails_104 : decode cX11_fails 104 = .ok (.aload_n 0, 1) := by decide +kernel
theorem dX11_fails_105 : decode cX11_fails 105 = .ok (.getfield 81, 3) := by decide +kernel
theorem dX11_fails_108 : decode cX11_fails 108 = .ok (.iload_n 3, 1) := by decide +kernel
theorem dX11_fails_109 : decode cX11_fails 109 = .ok (.aload_n 0, 1) := by decide +kernel
theorem dX11_fails_110 : decode cX11_fails 110 = .ok (.getfield 81, 3) := by decide +kernel
theorem dX11_fails_113 : decode cX11_fails 113 = .ok (.iload_n 3, 1) := by decide +kernel
theorem dX11_fails_114 : decode cX11_fails 114 = .ok (.laload, 1) := by decide +kernel
theorem dX11_fails_115 : decode cX11_fails 115 = .ok (.aload_n 0, 1) := by decide +kernel
theorem dX11_fails_116 : decode cX11_fails 116 = .ok (.getfield 93, 3) := by decide +kernel
theorem dX11_fails_119 : decode cX11_fails 119 = .ok (.iload_n 3, 1) := by decide +kernel
theorem dX11_fails_120 : decode cX11_fails 120 = .ok (.laload, 1) := by decide +kernel
theorem dX11_fails_121 : decode cX11_fails 121 = .ok (.ladd, 1) := by decide +kernel
theorem dX11_fails_122 : decode cX11_fails 122 = .ok (.lastore, 1) := by decide +kernel
theorem dX11_fails_123 : decode cX11_fails 123 = .ok (.goto 15, 3) := by decide +kernel
theorem dX11_fails_126 : decode cX11_fails 126 = .ok (.aload_n 0, 1) := by decide +kernel
theorem dX11_fails_127 : decode cX11_fails 127 = .ok (.getfield 84, 3) := by decide +kernel
theorem dX11_fails_130 : decode cX11_fails 130 = .ok (.iload_n 3, 1) := by decide +kernel
theorem dX11_fails_131 : decode cX11_fails 131 = .ok (.aload_n 0, 1) := by decide +kernel
theorem dX11_fails_132 : decode cX11_fails 132 = .ok (.getfield 93, 3) := by decide +kernel
theorem dX11_fails_135 : decode cX11_fails 135 = .ok (.iload_n 3, 1) := by decide +kernel
theorem dX11_fails_136 : decode cX11_fails 136 = .ok (.laload, 1) := by decide +kernel
theorem dX11_fails_137 : decode cX11_fails 137 = .ok (.lastore, 1) := by decide +kernel
theorem dX11_fails_138 : decode cX11_fails 138 = .ok (.iconst 1, 1) := by decide +kernel
theorem dX11_fails_139 : decode cX11_fails 139 = .ok (.ireturn, 1) := by decide +kernel
theorem dX11_does_0 : decode cX11_does 0 = .ok (.iload_n 2, 1) := by decide +kernel
theorem dX11_does_1 : decode cX11_does 1 = .ok (.tableswitch 280 0 7 #[47, 54, 108, 163, 172, 198, 266, 273], 47) := by decide +kernel
theorem dX11_does_48 : decode cX11_does 48 = .ok (.aload_n 0, 1) := by decide +kernel
theorem dX11_does_49 : decode cX11_does 49 = .ok (.iload_n 1, 1) := by decide +kernel
theorem dX11_does_50 : decode cX11_does 50 = .ok (.iload_n 3, 1) := by decide +kernel
theorem dX11_does_51 : decode cX11_does 51 = .ok (.invokevirtual 180, 3) := by decide +kernel
theorem dX11_does_54 : decode cX11_does 54 = .ok (.ireturn, 1) := by decide +kernel
theorem dX11_does_55 : decode cX11_does 55 = .ok (.aload_n 0, 1) := by decide +kernel
theorem dX11_does_56 : decode cX11_does 56 = .ok (.iload_n 1, 1) := by decide +kernel
theorem dX11_does_57 : decode cX11_does 57 = .ok (.iload_n 3, 1) := by decide +kernel
theorem dX11_does_58 : decode cX11_does 58 = .ok (.invokevirtual 183, 3) := by decide +kernel
theorem dX11_does_61 : decode cX11_does 61 = .ok (.ifCond .ne 5, 3) := by decide +kernel
theorem dX11_does_64 : decode cX11_does 64 = .ok (.iconst 0, 1) := by decide +kernel
theorem dX11_does_65 : decode cX11_does 65 = .ok (.ireturn, 1) := by decide +kernel
theorem dX11_does_66 : decode cX11_does 66 = .ok (.iconst 0, 1) := by decide +kernel
theorem dX11_does_67 : decode cX11_does 67 = .ok (.istore 6, 2) := by decide +kernel
theorem dX11_does_69 : decode cX11_does 69 = .ok (.iload 6, 2) := by decide +kernel
theorem dX11_does_71 : decode cX11_does 71 = .ok (.bipush 8, 2) := by decide +kernel
theorem dX11_does_73 : decode cX11_does 73 = .ok (.if_icmp .ge 34, 3) := by decide +kernel
theorem dX11_does_76 : decode cX11_does 76 = .ok (.aload_n 0, 1) := by decide +kernel
theorem dX11_does_77 : decode cX11_does 77 = .ok (.getfield 44, 3) := by decide +kernel
theorem dX11_does_80 : decode cX11_does 80 = .ok (.bipush 8, 2) := by decide +kernel
theorem dX11_does_82 : decode cX11_does 82 = .ok (.iload_n 1, 1) := by decide +kernel
theorem dX11_does_83 : decode cX11_does 83 = .ok (.imul, 1) := by decide +kernel
theorem dX11_does_84 : decode cX11_does 84 = .ok (.iload 6, 2) := by decide +kernel
theorem dX11_does_86 : decode cX11_does 86 = .ok (.iadd, 1) := by decide +kernel
theorem dX11_does_87 : decode cX11_does 87 = .ok (.aload_n 0, 1) := by decide +kernel
theorem dX11_does_88 : decode cX11_does 88 = .ok (.getfield 114, 3) := by decide +kernel
theorem dX11_does_91 : decode cX11_does 91 = .ok (.bipush 8, 2) := by decide +kernel
theorem dX11_does_93 : decode cX11_does 93 = .ok (.iload 5, 2) := by decide +kernel
theorem dX11_does_95 : decode cX11_does 95 = .ok (.imul, 1) := by decide +kernel
theorem dX11_does_96 : decode cX11_does 96 = .ok (.iload 6, 2) := by decide +kernel
theorem dX11_does_98 : decode cX11_does 98 = .ok (.iadd, 1) := by decide +kernel
theorem dX11_does_99 : decode cX11_does 99 = .ok (.iaload, 1) := by decide +kernel
theorem dX11_does_100 : decode cX11_does 100 = .ok (.iastore, 1) := by decide +kernel
theorem dX11_does_101 : decode cX11_does 101 = .ok (.iinc 6 1, 3) := by decide +kernel
theorem dX11_does_104 : decode cX11_does 104 = .ok (.goto (-35), 3) := by decide +kernel
theorem dX11_does_107 : decode cX11_does 107 = .ok (.iconst 1, 1) := by decide +kernel
theorem dX11_does_108 : decode cX11_does 108 = .ok (.ireturn, 1) := by decide +kernel
theorem dX11_does_109 : decode cX11_does 109 = .ok (.aload_n 0, 1) := by decide +kernel
theorem dX11_does_110 : decode cX11_does 110 = .ok (.iload_n 1, 1) := by decide +kernel
theorem dX11_does_111 : decode cX11_does 111 = .ok (.iload_n 3, 1) := by decide +kernel
theorem dX11_does_112 : decode cX11_does 112 = .ok (.invokevirtual 173, 3) := by decide +kernel
theorem dX11_does_115 : decode cX11_does 115 = .ok (.ifCond .ne 5, 3) := by decide +kernel
theorem dX11_does_118 : decode cX11_does 118 = .ok (.iconst 0, 1) := by decide +kernel
theorem dX11_does_119 : decode cX11_does 119 = .ok (.ireturn, 1) := by decide +kernel
theorem dX11_does_120 : decode cX11_does 120 = .ok (.aload_n 0, 1) := by decide +kernel
theorem dX11_does_121 : decode cX11_does 121 = .ok (.getfield 72, 3) := by decide +kernel
theorem dX11_does_124 : decode cX11_does 124 = .ok (.bipush 12, 2) := by decide +kernel
theorem dX11_does_126 : decode cX11_does 126 = .ok (.iload_n 1, 1) := by decide +kernel
theorem dX11_does_127 : decode cX11_does 127 = .ok (.imul, 1) := by decide +kernel
theorem dX11_does_128 : decode cX11_does 128 = .ok (.iload_n 3, 1) := by decide +kernel
theorem dX11_does_129 : decode cX11_does 129 = .ok (.iadd, 1) := by decide +kernel
theorem dX11_does_130 : decode cX11_does 130 = .ok (.aload_n 0, 1) := by decide +kernel
theorem dX11_does_131 : decode cX11_does 131 = .ok (.getfield 72, 3) := by decide +kernel
theorem dX11_does_134 : decode cX11_does 134 = .ok (.bipush 12, 2) := by decide +kernel
theorem dX11_does_136 : decode cX11_does 136 = .ok (.iload_n 1, 1) := by decide +kernel
theorem dX11_does_137 : decode cX11_does 137 = .ok (.imul, 1) := by decide +kernel
theorem dX11_does_138 : decode cX11_does 138 = .ok (.iload_n 3, 1) := by decide +kernel
theorem dX11_does_139 : decode cX11_does 139 = .ok (.iadd, 1) := by decide +kernel
theorem dX11_does_140 : decode cX11_does 140 = .ok (.laload, 1) := by decide +kernel
theorem dX11_does_141 : decode cX11_does 141 = .ok (.iload 4, 2) := by decide +kernel
theorem dX11_does_143 : decode cX11_does 143 = .ok (.i2l, 1) := by decide +kernel
theorem dX11_does_144 : decode cX11_does 144 = .ok (.ladd, 1) := by decide +kernel
theorem dX11_does_145 : decode cX11_does 145 = .ok (.lastore, 1) := by decide +kernel
theorem dX11_does_146 : decode cX11_does 146 = .ok (.aload_n 0, 1) := by decide +kernel
theorem dX11_does_147 : decode cX11_does 147 = .ok (.getfield 38, 3) := by decide +kernel
theorem dX11_does_150 : decode cX11_does 150 = .ok (.iload_n 1, 1) := by decide +kernel
theorem dX11_does_151 : decode cX11_does 151 = .ok (.aload_n 0, 1) := by decide +kernel
theorem dX11_does_152 : decode cX11_does 152 = .ok (.getfield 38, 3) := by decide +kernel
theorem dX11_does_155 : decode cX11_does 155 = .ok (.iload_n 1, 1) := by decide +kernel
theorem dX11_does_156 : decode cX11_does 156 = .ok (.laload, 1) := by decide +kernel
theorem dX11_does_157 : decode cX11_does 157 = .ok (.iload 4, 2) := by decide +kernel
theorem dX11_does_159 : decode cX11_does 159 = .ok (.i2l, 1) := by decide +kernel
theorem dX11_does_160 : decode cX11_does 160 = .ok (.ladd, 1) := by decide +kernel
theorem dX11_does_161 : decode cX11_does 161 = .ok (.lastore, 1) := by decide +kernel
theorem dX11_does_162 : decode cX11_does 162 = .ok (.iconst 1, 1) := by decide +kernel
theorem dX11_does_163 : decode cX11_does 163 = .ok (.ireturn, 1) := by decide +kernel
theorem dX11_does_164 : decode cX11_does 164 = .ok (.aload_n 0, 1) := by decide +kernel
theorem dX11_does_165 : decode cX11_does 165 = .ok (.getfield 16, 3) := by decide +kernel
theorem dX11_does_168 : decode cX11_does 168 = .ok (.iload_n 1, 1) := by decide +kernel
theorem dX11_does_169 : decode cX11_does 169 = .ok (.iload_n 3, 1) := by decide +kernel
theorem dX11_does_170 : decode cX11_does 170 = .ok (.iastore, 1) := by decide +kernel
theorem dX11_does_171 : decode cX11_does 171 = .ok (.iconst 1, 1) := by decide +kernel
theorem dX11_does_172 : decode cX11_does 172 = .ok (.ireturn, 1) := by decide +kernel
theorem dX11_does_173 : decode cX11_does 173 = .ok (.aload_n 0, 1) := by decide +kernel
theorem dX11_does_174 : decode cX11_does 174 = .ok (.iload_n 1, 1) := by decide +kernel
theorem dX11_does_175 : decode cX11_does 175 = .ok (.iload_n 3, 1) := by decide +kernel
theorem dX11_does_176 : decode cX11_does 176 = .ok (.invokevirtual 173, 3) := by decide +kernel
theorem dX11_does_179 : decode cX11_does 179 = .ok (.ifCond .ne 5, 3) := by decide +kernel
theorem dX11_does_182 : decode cX11_does 182 = .ok (.iconst 0, 1) := by decide +kernel
theorem dX11_does_183 : decode cX11_does 183 = .ok (.ireturn, 1) := by decide +kernel
theorem dX11_does_184 : decode cX11_does 184 = .ok (.aload_n 0, 1) := by decide +kernel
theorem dX11_does_185 : decode cX11_does 185 = .ok (.getfield 63, 3) := by decide +kernel
theorem dX11_does_188 : decode cX11_does 188 = .ok (.bipush 12, 2) := by decide +kernel
theorem dX11_does_190 : decode cX11_does 190 = .ok (.iload_n 1, 1) := by decide +kernel
theorem dX11_does_191 : decode cX11_does 191 = .ok (.imul, 1) := by decide +kernel
theorem dX11_does_192 : decode cX11_does 192 = .ok (.iload_n 3, 1) := by decide +kernel
theorem dX11_does_193 : decode cX11_does 193 = .ok (.iadd, 1) := by decide +kernel
theorem dX11_does_194 : decode cX11_does 194 = .ok (.iload 4, 2) := by decide +kernel
theorem dX11_does_196 : decode cX11_does 196 = .ok (.iastore, 1) := by decide +kernel
theorem dX11_does_197 : decode cX11_does 197 = .ok (.iconst 1, 1) := by decide +kernel
theorem dX11_does_198 : decode cX11_does 198 = .ok (.ireturn, 1) := by decide +kernel
theorem dX11_does_199 : decode cX11_does 199 = .ok (.aload_n 0, 1) := by decide +kernel
theorem dX11_does_200 : decode cX11_does 200 = .ok (.iload_n 1, 1) := by decide +kernel
theorem dX11_does_201 : decode cX11_does 201 = .ok (.iload_n 3, 1) := by decide +kernel
theorem dX11_does_202 : decode cX11_does 202 = .ok (.invokevirtual 169, 3) := by decide +kernel
theorem dX11_does_205 : decode cX11_does 205 = .ok (.ifCond .eq 46, 3) := by decide +kernel
theorem dX11_does_208 : decode cX11_does 208 = .ok (.aload_n 0, 1) := by decide +kernel
theorem dX11_does_209 : decode cX11_does 209 = .ok (.bipush 12, 2) := by decide +kernel
theorem dX11_does_211 : decode cX11_does 211 = .ok (.iload_n 1, 1) := by decide +kernel
theorem dX11_does_212 : decode cX11_does 212 = .ok (.imul, 1) := by decide +kernel
theorem dX11_does_213 : decode cX11_does 213 = .ok (.iload_n 3, 1) := by decide +kernel
theorem dX11_does_214 : decode cX11_does 214 = .ok (.iadd, 1) := by decide +kernel
theorem dX11_does_215 : decode cX11_does 215 = .ok (.invokevirtual 135, 3) := by decide +kernel
theorem dX11_does_218 : decode cX11_does 218 = .ok (.ifCond .eq 33, 3) := by decide +kernel
theorem dX11_does_221 : decode cX11_does 221 = .ok (.aload_n 0, 1) := by decide +kernel
theorem dX11_does_222 : decode cX11_does 222 = .ok (.getfield 84, 3) := by decide +kernel
theorem dX11_does_225 : decode cX11_does 225 = .ok (.bipush 12, 2) := by decide +kernel
theorem dX11_does_227 : decode cX11_does 227 = .ok (.iload_n 1, 1) := by decide +kernel
theorem dX11_does_228 : decode cX11_does 228 = .ok (.imul, 1) := by decide +kernel
theorem dX11_does_229 : decode cX11_does 229 = .ok (.iload_n 3, 1) := by decide +kernel
theorem dX11_does_230 : decode cX11_does 230 = .ok (.iadd, 1) := by decide +kernel
theorem dX11_does_231 : decode cX11_does 231 = .ok (.laload, 1) := by decide +kernel
theorem dX11_does_232 : decode cX11_does 232 = .ok (.lconst 0, 1) := by decide +kernel
theorem dX11_does_233 : decode cX11_does 233 = .ok (.lcmp, 1) := by decide +kernel
theorem dX11_does_234 : decode cX11_does 234 = .ok (.ifCond .gt 17, 3) := by decide +kernel
theorem dX11_does_237 : decode cX11_does 237 = .ok (.aload_n 0, 1) := by decide +kernel
theorem dX11_does_238 : decode cX11_does 238 = .ok (.getfield 102, 3) := by decide +kernel
theorem dX11_does_241 : decode cX11_does 241 = .ok (.bipush 12, 2) := by decide +kernel
theorem dX11_does_243 : decode cX11_does 243 = .ok (.iload_n 1, 1) := by decide +kernel
theorem dX11_does_244 : decode cX11_does 244 = .ok (.imul, 1) := by decide +kernel
theorem dX11_does_245 : decode cX11_does 245 = .ok (.iload_n 3, 1) := by decide +kernel
theorem dX11_does_246 : decode cX11_does 246 = .ok (.iadd, 1) := by decide +kernel
theorem dX11_does_247 : decode cX11_does 247 = .ok (.baload, 1) := by decide +kernel
theorem dX11_does_248 : decode cX11_does 248 = .ok (.ifCond .eq 5, 3) := by decide +kernel
theorem dX11_does_251 : decode cX11_does 251 = .ok (.iconst 0, 1) := by decide +kernel
theorem dX11_does_252 : decode cX11_does 252 = .ok (.ireturn, 1) := by decide +kernel
theorem dX11_does_253 : decode cX11_does 253 = .ok (.aload_n 0, 1) := by decide +kernel
theorem dX11_does_254 : decode cX11_does 254 = .ok (.getfield 102, 3) := by decide +kernel
theorem dX11_does_257 : decode cX11_does 257 = .ok (.bipush 12, 2) := by decide +kernel
theorem dX11_does_259 : decode cX11_does 259 = .ok (.iload_n 1, 1) := by decide +kernel
theorem dX11_does_260 : decode cX11_does 260 = .ok (.imul, 1) := by decide +kernel
theorem dX11_does_261 : decode cX11_does 261 = .ok (.iload_n 3, 1) := by decide +kernel
theorem dX11_does_262 : decode cX11_does 262 = .ok (.iadd, 1) := by decide +kernel
theorem dX11_does_263 : decode cX11_does 263 = .ok (.iconst 1, 1) := by decide +kernel
theorem dX11_does_264 : decode cX11_does 264 = .ok (.bastore, 1) := by decide +kernel
theorem dX11_does_265 : decode cX11_does 265 = .ok (.iconst 1, 1) := by decide +kernel
theorem dX11_does_266 : decode cX11_does 266 = .ok (.ireturn, 1) := by decide +kernel
theorem dX11_does_267 : decode cX11_does 267 = .ok (.aload_n 0, 1) := by decide +kernel
theorem dX11_does_268 : decode cX11_does 268 = .ok (.iload_n 1, 1) := by decide +kernel
theorem dX11_does_269 : decode cX11_does 269 = .ok (.iload_n 3, 1) := by decide +kernel
theorem dX11_does_270 : decode cX11_does 270 = .ok (.invokevirtual 186, 3) := by decide +kernel
theorem dX11_does_273 : decode cX11_does 273 = .ok (.ireturn, 1) := by decide +kernel
theorem dX11_does_274 : decode cX11_does 274 = .ok (.aload_n 0, 1) := by decide +kernel
theorem dX11_does_275 : decode cX11_does 275 = .ok (.iload_n 1, 1) := by decide +kernel
theorem dX11_does_276 : decode cX11_does 276 = .ok (.iload_n 3, 1) := by decide +kernel
theorem dX11_does_277 : decode cX11_does 277 = .ok (.invokevirtual 189, 3) := by decide +kernel
theorem dX11_does_280 : decode cX11_does 280 = .ok (.ireturn, 1) := by decide +kernel
theorem dX11_does_281 : decode cX11_does 281 = .ok (.iconst 0, 1) := by decide +kernel
theorem dX11_does_282 : decode cX11_does 282 = .ok (.istore 6, 2) := by decide +kernel
theorem dX11_does_284 : decode cX11_does 284 = .ok (.iload 6, 2) := by decide +kernel
theorem dX11_does_286 : decode cX11_does 286 = .ok (.iload_n 3, 1) := by decide +kernel
theorem dX11_does_287 : decode cX11_does 287 = .ok (.if_icmp .ge 14, 3) := by decide +kernel
theorem dX11_does_290 : decode cX11_does 290 = .ok (.aload_n 0, 1) := by decide +kernel
theorem dX11_does_291 : decode cX11_does 291 = .ok (.iload_n 1, 1) := by decide +kernel
theorem dX11_does_292 : decode cX11_does 292 = .ok (.invokevirtual 192, 3) := by decide +kernel
theorem dX11_does_295 : decode cX11_does 295 = .ok (.iinc 6 1, 3) := by decide +kernel
theorem dX11_does_298 : decode cX11_does 298 = .ok (.goto (-14), 3) := by decide +kernel
theorem dX11_does_301 : decode cX11_does 301 = .ok (.iconst 1, 1) := by decide +kernel
theorem dX11_does_302 : decode cX11_does 302 = .ok (.ireturn, 1) := by decide +kernel
theorem dX11_tells_0 : decode cX11_tells 0 = .ok (.aload_n 0, 1) := by decide +kernel
theorem dX11_tells_1 : decode cX11_tells 1 = .ok (.getfield 195, 3) := by decide +kernel
theorem dX11_tells_4 : decode cX11_tells 4 = .ok (.sipush 400, 3) := by decide +kernel
theorem dX11_tells_7 : decode cX11_tells 7 = .ok (.if_icmp .eq 18, 3) := by decide +kernel
theorem dX11_tells_10 : decode cX11_tells 10 = .ok (.aload_n 0, 1) := by decide +kernel
theorem dX11_tells_11 : decode cX11_tells 11 = .ok (.iconst 0, 1) := by decide +kernel
theorem dX11_tells_12 : decode cX11_tells 12 = .ok (.iload_n 1, 1) := by decide +kernel
theorem dX11_tells_13 : decode cX11_tells 13 = .ok (.iload_n 2, 1) := by decide +kernel
theorem dX11_tells_14 : decode cX11_tells 14 = .ok (.iload_n 3, 1) := by decide +kernel
theorem dX11_tells_15 : decode cX11_tells 15 = .ok (.aload_n 0, 1) := by decide +kernel
theorem dX11_tells_16 : decode cX11_tells 16 = .ok (.getfield 195, 3) := by decide +kernel
theorem dX11_tells_19 : decode cX11_tells 19 = .ok (.invokevirtual 199, 3) := by decide +kernel
theorem dX11_tells_22 : decode cX11_tells 22 = .ok (.ifCond .ne 5, 3) := by decide +kernel
theorem dX11_tells_25 : decode cX11_tells 25 = .ok (.iconst 0, 1) := by decide +kernel
theorem dX11_tells_26 : decode cX11_tells 26 = .ok (.ireturn, 1) := by decide +kernel
theorem dX11_tells_27 : decode cX11_tells 27 = .ok (.aload_n 0, 1) := by decide +kernel
theorem dX11_tells_28 : decode cX11_tells 28 = .ok (.getfield 105, 3) := by decide +kernel
theorem dX11_tells_31 : decode cX11_tells 31 = .ok (.aload_n 0, 1) := by decide +kernel
theorem dX11_tells_32 : decode cX11_tells 32 = .ok (.getfield 195, 3) := by decide +kernel
theorem dX11_tells_35 : decode cX11_tells 35 = .ok (.iload_n 1, 1) := by decide +kernel
theorem dX11_tells_36 : decode cX11_tells 36 = .ok (.iastore, 1) := by decide +kernel
theorem dX11_tells_37 : decode cX11_tells 37 = .ok (.aload_n 0, 1) := by decide +kernel
theorem dX11_tells_38 : decode cX11_tells 38 = .ok (.getfield 108, 3) := by decide +kernel
theorem dX11_tells_41 : decode cX11_tells 41 = .ok (.aload_n 0, 1) := by decide +kernel
theorem dX11_tells_42 : decode cX11_tells 42 = .ok (.getfield 195, 3) := by decide +kernel
theorem dX11_tells_45 : decode cX11_tells 45 = .ok (.iload_n 2, 1) := by decide +kernel
theorem dX11_tells_46 : decode cX11_tells 46 = .ok (.iastore, 1) := by decide +kernel
theorem dX11_tells_47 : decode cX11_tells 47 = .ok (.aload_n 0, 1) := by decide +kernel
theorem dX11_tells_48 : decode cX11_tells 48 = .ok (.getfield 111, 3) := by decide +kernel
theorem dX11_tells_51 : decode cX11_tells 51 = .ok (.aload_n 0, 1) := by decide +kernel
theorem dX11_tells_52 : decode cX11_tells 52 = .ok (.getfield 195, 3) := by decide +kernel
theorem dX11_tells_55 : decode cX11_tells 55 = .ok (.iload_n 3, 1) := by decide +kernel
theorem dX11_tells_56 : decode cX11_tells 56 = .ok (.iastore, 1) := by decide +kernel
theorem dX11_tells_57 : decode cX11_tells 57 = .ok (.aload_n 0, 1) := by decide +kernel
theorem dX11_tells_58 : decode cX11_tells 58 = .ok (.aload_n 0, 1) := by decide +kernel
theorem dX11_tells_59 : decode cX11_tells 59 = .ok (.getfield 195, 3) := by decide +kernel
theorem dX11_tells_62 : decode cX11_tells 62 = .ok (.iconst 1, 1) := by decide +kernel
theorem dX11_tells_63 : decode cX11_tells 63 = .ok (.iadd, 1) := by decide +kernel
theorem dX11_tells_64 : decode cX11_tells 64 = .ok (.putfield 195, 3) := by decide +kernel
theorem dX11_tells_67 : decode cX11_tells 67 = .ok (.iconst 1, 1) := by decide +kernel
theorem dX11_tells_68 : decode cX11_tells 68 = .ok (.ireturn, 1) := by decide +kernel
theorem dX11_member_0 : decode cX11_member 0 = .ok (.aload_n 0, 1) := by decide +kernel
theorem dX11_member_1 : decode cX11_member 1 = .ok (.iconst 0, 1) := by decide +kernel
theorem dX11_member_2 : decode cX11_member 2 = .ok (.iload_n 1, 1) := by decide +kernel
theorem dX11_member_3 : decode cX11_member 3 = .ok (.iconst 0, 1) := by decide +kernel
theorem dX11_member_4 : decode cX11_member 4 = .ok (.invokevirtual 203, 3) := by decide +kernel
theorem dX11_member_7 : decode cX11_member 7 = .ok (.ifCond .eq 14, 3) := by decide +kernel
theorem dX11_member_10 : decode cX11_member 10 = .ok (.aload_n 0, 1) := by decide +kernel
theorem dX11_member_11 : decode cX11_member 11 = .ok (.getfield 7, 3) := by decide +kernel
theorem dX11_member_14 : decode cX11_member 14 = .ok (.iconst 0, 1) := by decide +kernel
theorem dX11_member_15 : decode cX11_member 15 = .ok (.iaload, 1) := by decide +kernel
theorem dX11_member_16 : decode cX11_member 16 = .ok (.iconst 1, 1) := by decide +kernel
theorem dX11_member_17 : decode cX11_member 17 = .ok (.isub, 1) := by decide +kernel
theorem dX11_member_18 : decode cX11_member 18 = .ok (.goto 4, 3) := by decide +kernel
theorem dX11_member_21 : decode cX11_member 21 = .ok (.iconst (-1), 1) := by decide +kernel
theorem dX11_member_22 : decode cX11_member 22 = .ok (.ireturn, 1) := by decide +kernel
theorem dX11_pay_0 : decode cX11_pay 0 = .ok (.iload_n 2, 1) := by decide +kernel
theorem dX11_pay_1 : decode cX11_pay 1 = .ok (.iconst 1, 1) := by decide +kernel
theorem dX11_pay_2 : decode cX11_pay 2 = .ok (.if_icmp .lt 23, 3) := by decide +kernel
theorem dX11_pay_5 : decode cX11_pay 5 = .ok (.iload_n 2, 1) := by decide +kernel
theorem dX11_pay_6 : decode cX11_pay 6 = .ok (.ldc 207, 2) := by decide +kernel
theorem dX11_pay_8 : decode cX11_pay 8 = .ok (.if_icmp .gt 17, 3) := by decide +kernel
theorem dX11_pay_11 : decode cX11_pay 11 = .ok (.aload_n 0, 1) := by decide +kernel
theorem dX11_pay_12 : decode cX11_pay 12 = .ok (.iconst 2, 1) := by decide +kernel
theorem dX11_pay_13 : decode cX11_pay 13 = .ok (.iload_n 1, 1) := by decide +kernel
theorem dX11_pay_14 : decode cX11_pay 14 = .ok (.iload_n 2, 1) := by decide +kernel
theorem dX11_pay_15 : decode cX11_pay 15 = .ok (.invokevirtual 203, 3) := by decide +kernel
theorem dX11_pay_18 : decode cX11_pay 18 = .ok (.ifCond .eq 7, 3) := by decide +kernel
theorem dX11_pay_21 : decode cX11_pay 21 = .ok (.iconst 1, 1) := by decide +kernel
theorem dX11_pay_22 : decode cX11_pay 22 = .ok (.goto 4, 3) := by decide +kernel
theorem dX11_pay_25 : decode cX11_pay 25 = .ok (.iconst 0, 1) := by decide +kernel
theorem dX11_pay_26 : decode cX11_pay 26 = .ok (.ireturn, 1) := by decide +kernel
theorem dX11_lot_0 : decode cX11_lot 0 = .ok (.iload_n 1, 1) := by decide +kernel
theorem dX11_lot_1 : decode cX11_lot 1 = .ok (.ifCond .lt 24, 3) := by decide +kernel
theorem dX11_lot_4 : decode cX11_lot 4 = .ok (.iload_n 1, 1) := by decide +kernel
theorem dX11_lot_5 : decode cX11_lot 5 = .ok (.sipush 10000, 3) := by decide +kernel
theorem dX11_lot_8 : decode cX11_lot 8 = .ok (.if_icmp .gt 17, 3) := by decide +kernel
theorem dX11_lot_11 : decode cX11_lot 11 = .ok (.aload_n 0, 1) := by decide +kernel
theorem dX11_lot_12 : decode cX11_lot 12 = .ok (.iconst 3, 1) := by decide +kernel
theorem dX11_lot_13 : decode cX11_lot 13 = .ok (.iload_n 1, 1) := by decide +kernel
theorem dX11_lot_14 : decode cX11_lot 14 = .ok (.iconst 0, 1) := by decide +kernel
theorem dX11_lot_15 : decode cX11_lot 15 = .ok (.invokevirtual 203, 3) := by decide +kernel
theorem dX11_lot_18 : decode cX11_lot 18 = .ok (.ifCond .eq 7, 3) := by decide +kernel
theorem dX11_lot_21 : decode cX11_lot 21 = .ok (.iconst 1, 1) := by decide +kernel
theorem dX11_lot_22 : decode cX11_lot 22 = .ok (.goto 4, 3) := by decide +kernel
theorem dX11_lot_25 : decode cX11_lot 25 = .ok (.iconst 0, 1) := by decide +kernel
theorem dX11_lot_26 : decode cX11_lot 26 = .ok (.ireturn, 1) := by decide +kernel
theorem dX11_bid_0 : decode cX11_bid 0 = .ok (.iload_n 2, 1) := by decide +kernel
theorem dX11_bid_1 : decode cX11_bid 1 = .ok (.ifCond .lt 24, 3) := by decide +kernel
theorem dX11_bid_4 : decode cX11_bid 4 = .ok (.iload_n 2, 1) := by decide +kernel
theorem dX11_bid_5 : decode cX11_bid 5 = .ok (.sipush 5000, 3) := by decide +kernel
theorem dX11_bid_8 : decode cX11_bid 8 = .ok (.if_icmp .gt 17, 3) := by decide +kernel
theorem dX11_bid_11 : decode cX11_bid 11 = .ok (.aload_n 0, 1) := by decide +kernel
theorem dX11_bid_12 : decode cX11_bid 12 = .ok (.iconst 4, 1) := by decide +kernel
theorem dX11_bid_13 : decode cX11_bid 13 = .ok (.iload_n 1, 1) := by decide +kernel
theorem dX11_bid_14 : decode cX11_bid 14 = .ok (.iload_n 2, 1) := by decide +kernel
theorem dX11_bid_15 : decode cX11_bid 15 = .ok (.invokevirtual 203, 3) := by decide +kernel
theorem dX11_bid_18 : decode cX11_bid 18 = .ok (.ifCond .eq 7, 3) := by decide +kernel
theorem dX11_bid_21 : decode cX11_bid 21 = .ok (.iconst 1, 1) := by decide +kernel
theorem dX11_bid_22 : decode cX11_bid 22 = .ok (.goto 4, 3) := by decide +kernel
theorem dX11_bid_25 : decode cX11_bid 25 = .ok (.iconst 0, 1) := by decide +kernel
theorem dX11_bid_26 : decode cX11_bid 26 = .ok (.ireturn, 1) := by decide +kernel
theorem dX11_seen_0 : decode cX11_seen 0 = .ok (.aload_n 0, 1) := by decide +kernel
theorem dX11_seen_1 : decode cX11_seen 1 = .ok (.iconst 5, 1) := by decide +kernel
theorem dX11_seen_2 : decode cX11_seen 2 = .ok (.iload_n 1, 1) := by decide +kernel
theorem dX11_seen_3 : decode cX11_seen 3 = .ok (.iconst 0, 1) := by decide +kernel
theorem dX11_seen_4 : decode cX11_seen 4 = .ok (.invokevirtual 203, 3) := by decide +kernel
theorem dX11_seen_7 : decode cX11_seen 7 = .ok (.ireturn, 1) := by decide +kernel
theorem dX11_leave_0 : decode cX11_leave 0 = .ok (.aload_n 0, 1) := by decide +kernel
theorem dX11_leave_1 : decode cX11_leave 1 = .ok (.bipush 6, 2) := by decide +kernel
theorem dX11_leave_3 : decode cX11_leave 3 = .ok (.iload_n 1, 1) := by decide +kernel
theorem dX11_leave_4 : decode cX11_leave 4 = .ok (.iconst 0, 1) := by decide +kernel
theorem dX11_leave_5 : decode cX11_leave 5 = .ok (.invokevirtual 203, 3) := by decide +kernel
theorem dX11_leave_8 : decode cX11_leave 8 = .ok (.ireturn, 1) := by decide +kernel
theorem dX11_fail_0 : decode cX11_fail 0 = .ok (.aload_n 0, 1) := by decide +kernel
theorem dX11_fail_1 : decode cX11_fail 1 = .ok (.bipush 7, 2) := by decide +kernel
theorem dX11_fail_3 : decode cX11_fail 3 = .ok (.iload_n 1, 1) := by decide +kernel
theorem dX11_fail_4 : decode cX11_fail 4 = .ok (.iconst 0, 1) := by decide +kernel
theorem dX11_fail_5 : decode cX11_fail 5 = .ok (.invokevirtual 203, 3) := by decide +kernel
theorem dX11_fail_8 : decode cX11_fail 8 = .ok (.ireturn, 1) := by decide +kernel
theorem dX11_week_0 : decode cX11_week 0 = .ok (.iload_n 1, 1) := by decide +kernel
theorem dX11_week_1 : decode cX11_week 1 = .ok (.iconst 1, 1) := by decide +kernel
theorem dX11_week_2 : decode cX11_week 2 = .ok (.if_icmp .lt 29, 3) := by decide +kernel
theorem dX11_week_5 : decode cX11_week 5 = .ok (.iload_n 1, 1) := by decide +kernel
theorem dX11_week_6 : decode cX11_week 6 = .ok (.bipush 100, 2) := by decide +kernel
theorem dX11_week_8 : decode cX11_week 8 = .ok (.if_icmp .gt 23, 3) := by decide +kernel
theorem dX11_week_11 : decode cX11_week 11 = .ok (.aload_n 0, 1) := by decide +kernel
theorem dX11_week_12 : decode cX11_week 12 = .ok (.bipush 8, 2) := by decide +kernel
theorem dX11_week_14 : decode cX11_week 14 = .ok (.iload_n 1, 1) := by decide +kernel
theorem dX11_week_15 : decode cX11_week 15 = .ok (.iconst 0, 1) := by decide +kernel
theorem dX11_week_16 : decode cX11_week 16 = .ok (.invokevirtual 203, 3) := by decide +kernel
theorem dX11_week_19 : decode cX11_week 19 = .ok (.ifCond .eq 12, 3) := by decide +kernel
theorem dX11_week_22 : decode cX11_week 22 = .ok (.aload_n 0, 1) := by decide +kernel
theorem dX11_week_23 : decode cX11_week 23 = .ok (.getfield 13, 3) := by decide +kernel
theorem dX11_week_26 : decode cX11_week 26 = .ok (.iconst 0, 1) := by decide +kernel
theorem dX11_week_27 : decode cX11_week 27 = .ok (.iaload, 1) := by decide +kernel
theorem dX11_week_28 : decode cX11_week 28 = .ok (.goto 4, 3) := by decide +kernel
theorem dX11_week_31 : decode cX11_week 31 = .ok (.iconst (-1), 1) := by decide +kernel
theorem dX11_week_32 : decode cX11_week 32 = .ok (.ireturn, 1) := by decide +kernel
theorem dX11_types_0 : decode cX11_types 0 = .ok (.iconst 3, 1) := by decide +kernel
theorem dX11_types_1 : decode cX11_types 1 = .ok (.istore_n 2, 1) := by decide +kernel
theorem dX11_types_2 : decode cX11_types 2 = .ok (.iload_n 2, 1) := by decide +kernel
theorem dX11_types_3 : decode cX11_types 3 = .ok (.ifCond .lt 35, 3) := by decide +kernel
theorem dX11_types_6 : decode cX11_types 6 = .ok (.aload_n 0, 1) := by decide +kernel
theorem dX11_types_7 : decode cX11_types 7 = .ok (.getfield 120, 3) := by decide +kernel
theorem dX11_types_10 : decode cX11_types 10 = .ok (.aload_n 0, 1) := by decide +kernel
theorem dX11_types_11 : decode cX11_types 11 = .ok (.getfield 208, 3) := by decide +kernel
theorem dX11_types_14 : decode cX11_types 14 = .ok (.iload_n 1, 1) := by decide +kernel
theorem dX11_types_15 : decode cX11_types 15 = .ok (.bipush 8, 2) := by decide +kernel
theorem dX11_types_17 : decode cX11_types 17 = .ok (.iload_n 2, 1) := by decide +kernel
theorem dX11_types_18 : decode cX11_types 18 = .ok (.imul, 1) := by decide +kernel
theorem dX11_types_19 : decode cX11_types 19 = .ok (.ishr, 1) := by decide +kernel
theorem dX11_types_20 : decode cX11_types 20 = .ok (.i2b, 1) := by decide +kernel
theorem dX11_types_21 : decode cX11_types 21 = .ok (.bastore, 1) := by decide +kernel
theorem dX11_types_22 : decode cX11_types 22 = .ok (.aload_n 0, 1) := by decide +kernel
theorem dX11_types_23 : decode cX11_types 23 = .ok (.aload_n 0, 1) := by decide +kernel
theorem dX11_types_24 : decode cX11_types 24 = .ok (.getfield 208, 3) := by decide +kernel
theorem dX11_types_27 : decode cX11_types 27 = .ok (.iconst 1, 1) := by decide +kernel
theorem dX11_types_28 : decode cX11_types 28 = .ok (.iadd, 1) := by decide +kernel
theorem dX11_types_29 : decode cX11_types 29 = .ok (.putfield 208, 3) := by decide +kernel
theorem dX11_types_32 : decode cX11_types 32 = .ok (.iinc 2 (-1), 3) := by decide +kernel
theorem dX11_types_35 : decode cX11_types 35 = .ok (.goto (-33), 3) := by decide +kernel
theorem dX11_types_38 : decode cX11_types 38 = .ok (.return_, 1) := by decide +kernel
theorem dX11_feed_0 : decode cX11_feed 0 = .ok (.aload_n 0, 1) := by decide +kernel
theorem dX11_feed_1 : decode cX11_feed 1 = .ok (.getfield 208, 3) := by decide +kernel
theorem dX11_feed_4 : decode cX11_feed 4 = .ok (.bipush 20, 2) := by decide +kernel
theorem dX11_feed_6 : decode cX11_feed 6 = .ok (.iadd, 1) := by decide +kernel
theorem dX11_feed_7 : decode cX11_feed 7 = .ok (.bipush 60, 2) := by decide +kernel
theorem dX11_feed_9 : decode cX11_feed 9 = .ok (.if_icmp .le 5, 3) := by decide +kernel
theorem dX11_feed_12 : decode cX11_feed 12 = .ok (.iconst (-1), 1) := by decide +kernel
theorem dX11_feed_13 : decode cX11_feed 13 = .ok (.ireturn, 1) := by decide +kernel
theorem dX11_feed_14 : decode cX11_feed 14 = .ok (.aload_n 0, 1) := by decide +kernel
theorem dX11_feed_15 : decode cX11_feed 15 = .ok (.iload_n 1, 1) := by decide +kernel
theorem dX11_feed_16 : decode cX11_feed 16 = .ok (.invokevirtual 211, 3) := by decide +kernel
theorem dX11_feed_19 : decode cX11_feed 19 = .ok (.aload_n 0, 1) := by decide +kernel
theorem dX11_feed_20 : decode cX11_feed 20 = .ok (.iload_n 2, 1) := by decide +kernel
theorem dX11_feed_21 : decode cX11_feed 21 = .ok (.invokevirtual 211, 3) := by decide +kernel
theorem dX11_feed_24 : decode cX11_feed 24 = .ok (.aload_n 0, 1) := by decide +kernel
theorem dX11_feed_25 : decode cX11_feed 25 = .ok (.iload_n 3, 1) := by decide +kernel
theorem dX11_feed_26 : decode cX11_feed 26 = .ok (.invokevirtual 211, 3) := by decide +kernel
theorem dX11_feed_29 : decode cX11_feed 29 = .ok (.aload_n 0, 1) := by decide +kernel
theorem dX11_feed_30 : decode cX11_feed 30 = .ok (.iload 4, 2) := by decide +kernel
theorem dX11_feed_32 : decode cX11_feed 32 = .ok (.invokevirtual 211, 3) := by decide +kernel
theorem dX11_feed_35 : decode cX11_feed 35 = .ok (.aload_n 0, 1) := by decide +kernel
theorem dX11_feed_36 : decode cX11_feed 36 = .ok (.iload 5, 2) := by decide +kernel
theorem dX11_feed_38 : decode cX11_feed 38 = .ok (.invokevirtual 211, 3) := by decide +kernel
theorem dX11_feed_41 : decode cX11_feed 41 = .ok (.aload_n 0, 1) := by decide +kernel
theorem dX11_feed_42 : decode cX11_feed 42 = .ok (.getfield 208, 3) := by decide +kernel
theorem dX11_feed_45 : decode cX11_feed 45 = .ok (.ireturn, 1) := by decide +kernel
theorem dX11_letterOf_0 : decode cX11_letterOf 0 = .ok (.iload_n 0, 1) := by decide +kernel
theorem dX11_letterOf_1 : decode cX11_letterOf 1 = .ok (.tableswitch 105 98 115 #[97, 105, 105, 105, 91, 95, 93, 105, 105, 105, 99, 105, 105, 105, 105, 102, 89, 87], 87) := by decide +kernel
theorem dX11_letterOf_88 : decode cX11_letterOf 88 = .ok (.iconst 0, 1) := by decide +kernel
theorem dX11_letterOf_89 : decode cX11_letterOf 89 = .ok (.ireturn, 1) := by decide +kernel
theorem dX11_letterOf_90 : decode cX11_letterOf 90 = .ok (.iconst 1, 1) := by decide +kernel
theorem dX11_letterOf_91 : decode cX11_letterOf 91 = .ok (.ireturn, 1) := by decide +kernel
theorem dX11_letterOf_92 : decode cX11_letterOf 92 = .ok (.iconst 2, 1) := by decide +kernel
theorem dX11_letterOf_93 : decode cX11_letterOf 93 = .ok (.ireturn, 1) := by decide +kernel
theorem dX11_letterOf_94 : decode cX11_letterOf 94 = .ok (.iconst 3, 1) := by decide +kernel
theorem dX11_letterOf_95 : decode cX11_letterOf 95 = .ok (.ireturn, 1) := by decide +kernel
theorem dX11_letterOf_96 : decode cX11_letterOf 96 = .ok (.iconst 4, 1) := by decide +kernel
theorem dX11_letterOf_97 : decode cX11_letterOf 97 = .ok (.ireturn, 1) := by decide +kernel
theorem dX11_letterOf_98 : decode cX11_letterOf 98 = .ok (.iconst 5, 1) := by decide +kernel
theorem dX11_letterOf_99 : decode cX11_letterOf 99 = .ok (.ireturn, 1) := by decide +kernel
theorem dX11_letterOf_100 : decode cX11_letterOf 100 = .ok (.bipush 6, 2) := by decide +kernel
theorem dX11_letterOf_102 : decode cX11_letterOf 102 = .ok (.ireturn, 1) := by decide +kernel
theorem dX11_letterOf_103 : decode cX11_letterOf 103 = .ok (.bipush 7, 2) := by decide +kernel
theorem dX11_letterOf_105 : decode cX11_letterOf 105 = .ok (.ireturn, 1) := by decide +kernel
theorem dX11_letterOf_106 : decode cX11_letterOf 106 = .ok (.iconst (-1), 1) := by decide +kernel
theorem dX11_letterOf_107 : decode cX11_letterOf 107 = .ok (.ireturn, 1) := by decide +kernel
theorem dX11_canBe_0 : decode cX11_canBe 0 = .ok (.iload_n 0, 1) := by decide +kernel
theorem dX11_canBe_1 : decode cX11_canBe 1 = .ok (.tableswitch 138 0 6 #[43, 61, 74, 87, 99, 115, 126], 43) := by decide +kernel
theorem dX11_canBe_44 : decode cX11_canBe 44 = .ok (.iload_n 1, 1) := by decide +kernel
theorem dX11_canBe_45 : decode cX11_canBe 45 = .ok (.iconst 1, 1) := by decide +kernel
theorem dX11_canBe_46 : decode cX11_canBe 46 = .ok (.if_icmp .lt 14, 3) := by decide +kernel
theorem dX11_canBe_49 : decode cX11_canBe 49 = .ok (.iload_n 1, 1) := by decide +kernel
theorem dX11_canBe_50 : decode cX11_canBe 50 = .ok (.sipush 1000, 3) := by decide +kernel
theorem dX11_canBe_53 : decode cX11_canBe 53 = .ok (.if_icmp .gt 7, 3) := by decide +kernel
theorem dX11_canBe_56 : decode cX11_canBe 56 = .ok (.iconst 1, 1) := by decide +kernel
theorem dX11_canBe_57 : decode cX11_canBe 57 = .ok (.goto 4, 3) := by decide +kernel
theorem dX11_canBe_60 : decode cX11_canBe 60 = .ok (.iconst 0, 1) := by decide +kernel
theorem dX11_canBe_61 : decode cX11_canBe 61 = .ok (.ireturn, 1) := by decide +kernel
theorem dX11_canBe_62 : decode cX11_canBe 62 = .ok (.iload_n 1, 1) := by decide +kernel
theorem dX11_canBe_63 : decode cX11_canBe 63 = .ok (.sipush 1000, 3) := by decide +kernel
theorem dX11_canBe_66 : decode cX11_canBe 66 = .ok (.if_icmp .gt 7, 3) := by decide +kernel
theorem dX11_canBe_69 : decode cX11_canBe 69 = .ok (.iconst 1, 1) := by decide +kernel
theorem dX11_canBe_70 : decode cX11_canBe 70 = .ok (.goto 4, 3) := by decide +kernel
theorem dX11_canBe_73 : decode cX11_canBe 73 = .ok (.iconst 0, 1) := by decide +kernel
theorem dX11_canBe_74 : decode cX11_canBe 74 = .ok (.ireturn, 1) := by decide +kernel
theorem dX11_canBe_75 : decode cX11_canBe 75 = .ok (.iload_n 1, 1) := by decide +kernel
theorem dX11_canBe_76 : decode cX11_canBe 76 = .ok (.sipush 500, 3) := by decide +kernel
theorem dX11_canBe_79 : decode cX11_canBe 79 = .ok (.if_icmp .gt 7, 3) := by decide +kernel
theorem dX11_canBe_82 : decode cX11_canBe 82 = .ok (.iconst 1, 1) := by decide +kernel
theorem dX11_canBe_83 : decode cX11_canBe 83 = .ok (.goto 4, 3) := by decide +kernel
theorem dX11_canBe_86 : decode cX11_canBe 86 = .ok (.iconst 0, 1) := by decide +kernel
theorem dX11_canBe_87 : decode cX11_canBe 87 = .ok (.ireturn, 1) := by decide +kernel
theorem dX11_canBe_88 : decode cX11_canBe 88 = .ok (.iload_n 1, 1) := by decide +kernel
theorem dX11_canBe_89 : decode cX11_canBe 89 = .ok (.bipush 10, 2) := by decide +kernel
theorem dX11_canBe_91 : decode cX11_canBe 91 = .ok (.if_icmp .lt 7, 3) := by decide +kernel
theorem dX11_canBe_94 : decode cX11_canBe 94 = .ok (.iconst 1, 1) := by decide +kernel
theorem dX11_canBe_95 : decode cX11_canBe 95 = .ok (.goto 4, 3) := by decide +kernel
theorem dX11_canBe_98 : decode cX11_canBe 98 = .ok (.iconst 0, 1) := by decide +kernel
theorem dX11_canBe_99 : decode cX11_canBe 99 = .ok (.ireturn, 1) := by decide +kernel
theorem dX11_canBe_100 : decode cX11_canBe 100 = .ok (.iload_n 1, 1) := by decide +kernel
theorem dX11_canBe_101 : decode cX11_canBe 101 = .ok (.iconst 1, 1) := by decide +kernel
theorem dX11_canBe_102 : decode cX11_canBe 102 = .ok (.if_icmp .lt 12, 3) := by decide +kernel
theorem dX11_canBe_105 : decode cX11_canBe 105 = .ok (.iload_n 1, 1) := by decide +kernel
theorem dX11_canBe_106 : decode cX11_canBe 106 = .ok (.iconst 5, 1) := by decide +kernel
theorem dX11_canBe_107 : decode cX11_canBe 107 = .ok (.if_icmp .gt 7, 3) := by decide +kernel
theorem dX11_canBe_110 : decode cX11_canBe 110 = .ok (.iconst 1, 1) := by decide +kernel
theorem dX11_canBe_111 : decode cX11_canBe 111 = .ok (.goto 4, 3) := by decide +kernel
theorem dX11_canBe_114 : decode cX11_canBe 114 = .ok (.iconst 0, 1) := by decide +kernel
theorem dX11_canBe_115 : decode cX11_canBe 115 = .ok (.ireturn, 1) := by decide +kernel
theorem dX11_canBe_116 : decode cX11_canBe 116 = .ok (.iload_n 1, 1) := by decide +kernel
theorem dX11_canBe_117 : decode cX11_canBe 117 = .ok (.iconst 1, 1) := by decide +kernel
theorem dX11_canBe_118 : decode cX11_canBe 118 = .ok (.if_icmp .gt 7, 3) := by decide +kernel
theorem dX11_canBe_121 : decode cX11_canBe 121 = .ok (.iconst 1, 1) := by decide +kernel
theorem dX11_canBe_122 : decode cX11_canBe 122 = .ok (.goto 4, 3) := by decide +kernel
theorem dX11_canBe_125 : decode cX11_canBe 125 = .ok (.iconst 0, 1) := by decide +kernel
theorem dX11_canBe_126 : decode cX11_canBe 126 = .ok (.ireturn, 1) := by decide +kernel
theorem dX11_canBe_127 : decode cX11_canBe 127 = .ok (.iload_n 1, 1) := by decide +kernel
theorem dX11_canBe_128 : decode cX11_canBe 128 = .ok (.bipush 100, 2) := by decide +kernel
theorem dX11_canBe_130 : decode cX11_canBe 130 = .ok (.if_icmp .gt 7, 3) := by decide +kernel
theorem dX11_canBe_133 : decode cX11_canBe 133 = .ok (.iconst 1, 1) := by decide +kernel
theorem dX11_canBe_134 : decode cX11_canBe 134 = .ok (.goto 4, 3) := by decide +kernel
theorem dX11_canBe_137 : decode cX11_canBe 137 = .ok (.iconst 0, 1) := by decide +kernel
theorem dX11_canBe_138 : decode cX11_canBe 138 = .ok (.ireturn, 1) := by decide +kernel
theorem dX11_canBe_139 : decode cX11_canBe 139 = .ok (.iload_n 1, 1) := by decide +kernel
theorem dX11_canBe_140 : decode cX11_canBe 140 = .ok (.bipush 99, 2) := by decide +kernel
theorem dX11_canBe_142 : decode cX11_canBe 142 = .ok (.if_icmp .gt 7, 3) := by decide +kernel
theorem dX11_canBe_145 : decode cX11_canBe 145 = .ok (.iconst 1, 1) := by decide +kernel
theorem dX11_canBe_146 : decode cX11_canBe 146 = .ok (.goto 4, 3) := by decide +kernel
theorem dX11_canBe_149 : decode cX11_canBe 149 = .ok (.iconst 0, 1) := by decide +kernel
theorem dX11_canBe_150 : decode cX11_canBe 150 = .ok (.ireturn, 1) := by decide +kernel
theorem dX11_isDigit_0 : decode cX11_isDigit 0 = .ok (.iload_n 1, 1) := by decide +kernel
theorem dX11_isDigit_1 : decode cX11_isDigit 1 = .ok (.iload_n 2, 1) := by decide +kernel
theorem dX11_isDigit_2 : decode cX11_isDigit 2 = .ok (.if_icmp .ge 29, 3) := by decide +kernel
theorem dX11_isDigit_5 : decode cX11_isDigit 5 = .ok (.aload_n 0, 1) := by decide +kernel
theorem dX11_isDigit_6 : decode cX11_isDigit 6 = .ok (.getfield 120, 3) := by decide +kernel
theorem dX11_isDigit_9 : decode cX11_isDigit 9 = .ok (.iload_n 1, 1) := by decide +kernel
theorem dX11_isDigit_10 : decode cX11_isDigit 10 = .ok (.baload, 1) := by decide +kernel
theorem dX11_isDigit_11 : decode cX11_isDigit 11 = .ok (.bipush 48, 2) := by decide +kernel
theorem dX11_isDigit_13 : decode cX11_isDigit 13 = .ok (.if_icmp .lt 18, 3) := by decide +kernel
theorem dX11_isDigit_16 : decode cX11_isDigit 16 = .ok (.aload_n 0, 1) := by decide +kernel
theorem dX11_isDigit_17 : decode cX11_isDigit 17 = .ok (.getfield 120, 3) := by decide +kernel
theorem dX11_isDigit_20 : decode cX11_isDigit 20 = .ok (.iload_n 1, 1) := by decide +kernel
theorem dX11_isDigit_21 : decode cX11_isDigit 21 = .ok (.baload, 1) := by decide +kernel
theorem dX11_isDigit_22 : decode cX11_isDigit 22 = .ok (.bipush 57, 2) := by decide +kernel
theorem dX11_isDigit_24 : decode cX11_isDigit 24 = .ok (.if_icmp .gt 7, 3) := by decide +kernel
theorem dX11_isDigit_27 : decode cX11_isDigit 27 = .ok (.iconst 1, 1) := by decide +kernel
theorem dX11_isDigit_28 : decode cX11_isDigit 28 = .ok (.goto 4, 3) := by decide +kernel
theorem dX11_isDigit_31 : decode cX11_isDigit 31 = .ok (.iconst 0, 1) := by decide +kernel
theorem dX11_isDigit_32 : decode cX11_isDigit 32 = .ok (.ireturn, 1) := by decide +kernel
theorem dX11_parse_0 : decode cX11_parse 0 = .ok (.iconst 0, 1) := by decide +kernel
theorem dX11_parse_1 : decode cX11_parse 1 = .ok (.istore_n 2, 1) := by decide +kernel
theorem dX11_parse_2 : decode cX11_parse 2 = .ok (.iload_n 2, 1) := by decide +kernel
theorem dX11_parse_3 : decode cX11_parse 3 = .ok (.iload_n 1, 1) := by decide +kernel
theorem dX11_parse_4 : decode cX11_parse 4 = .ok (.if_icmp .ge 15, 3) := by decide +kernel
theorem dX11_parse_7 : decode cX11_parse 7 = .ok (.aload_n 0, 1) := by decide +kernel
theorem dX11_parse_8 : decode cX11_parse 8 = .ok (.getfield 120, 3) := by decide +kernel
theorem dX11_parse_11 : decode cX11_parse 11 = .ok (.iload_n 2, 1) := by decide +kernel
theorem dX11_parse_12 : decode cX11_parse 12 = .ok (.baload, 1) := by decide +kernel
theorem dX11_parse_13 : decode cX11_parse 13 = .ok (.invokestatic 214, 3) := by decide +kernel
theorem dX11_parse_16 : decode cX11_parse 16 = .ok (.goto 4, 3) := by decide +kernel
theorem dX11_parse_19 : decode cX11_parse 19 = .ok (.iconst (-1), 1) := by decide +kernel
theorem dX11_parse_20 : decode cX11_parse 20 = .ok (.istore_n 3, 1) := by decide +kernel
theorem dX11_parse_21 : decode cX11_parse 21 = .ok (.iload_n 3, 1) := by decide +kernel
theorem dX11_parse_22 : decode cX11_parse 22 = .ok (.iconst (-1), 1) := by decide +kernel
theorem dX11_parse_23 : decode cX11_parse 23 = .ok (.if_icmp .ne 8, 3) := by decide +kernel
theorem dX11_parse_26 : decode cX11_parse 26 = .ok (.bipush 100, 2) := by decide +kernel
theorem dX11_parse_28 : decode cX11_parse 28 = .ok (.iload_n 2, 1) := by decide +kernel
theorem dX11_parse_29 : decode cX11_parse 29 = .ok (.iadd, 1) := by decide +kernel
theorem dX11_parse_30 : decode cX11_parse 30 = .ok (.ireturn, 1) := by decide +kernel
theorem dX11_parse_31 : decode cX11_parse 31 = .ok (.iload_n 2, 1) := by decide +kernel
theorem dX11_parse_32 : decode cX11_parse 32 = .ok (.iconst 1, 1) := by decide +kernel
theorem dX11_parse_33 : decode cX11_parse 33 = .ok (.iadd, 1) := by decide +kernel
theorem dX11_parse_34 : decode cX11_parse 34 = .ok (.istore_n 2, 1) := by decide +kernel
theorem dX11_parse_35 : decode cX11_parse 35 = .ok (.iload_n 2, 1) := by decide +kernel
theorem dX11_parse_36 : decode cX11_parse 36 = .ok (.istore 4, 2) := by decide +kernel
