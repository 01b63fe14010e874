theorem dX11_parse_38 : decode cX11_parse 38 = .ok (.aload_n 0, 1) := by decide +kernel
theorem dX11_parse_39 : decode cX11_parse 39 = .ok (.iload_n 2, 1) := by decide +kernel
theorem dX11_parse_40 : decode cX11_parse 40 = .ok (.iload_n 1, 1) := by decide +kernel
theorem dX11_parse_41 : decode cX11_parse 41 = .ok (.invokevirtual 217, 3) := by decide +kernel
theorem dX11_parse_44 : decode cX11_parse 44 = .ok (.ifCond .ne 9, 3) := by decide +kernel
theorem dX11_parse_47 : decode cX11_parse 47 = .ok (.sipush 200, 3) := by decide +kernel
theorem dX11_parse_50 : decode cX11_parse 50 = .ok (.iload_n 2, 1) := by decide +kernel
theorem dX11_parse_51 : decode cX11_parse 51 = .ok (.iadd, 1) := by decide +kernel
theorem dX11_parse_52 : decode cX11_parse 52 = .ok (.ireturn, 1) := by decide +kernel
theorem dX11_parse_53 : decode cX11_parse 53 = .ok (.iconst 0, 1) := by decide +kernel
theorem dX11_parse_54 : decode cX11_parse 54 = .ok (.istore 5, 2) := by decide +kernel
theorem dX11_parse_56 : decode cX11_parse 56 = .ok (.aload_n 0, 1) := by decide +kernel
theorem dX11_parse_57 : decode cX11_parse 57 = .ok (.iload_n 2, 1) := by decide +kernel
theorem dX11_parse_58 : decode cX11_parse 58 = .ok (.iload_n 1, 1) := by decide +kernel
theorem dX11_parse_59 : decode cX11_parse 59 = .ok (.invokevirtual 217, 3) := by decide +kernel
theorem dX11_parse_62 : decode cX11_parse 62 = .ok (.ifCond .eq 41, 3) := by decide +kernel
theorem dX11_parse_65 : decode cX11_parse 65 = .ok (.iload_n 2, 1) := by decide +kernel
theorem dX11_parse_66 : decode cX11_parse 66 = .ok (.iload 4, 2) := by decide +kernel
theorem dX11_parse_68 : decode cX11_parse 68 = .ok (.iconst 4, 1) := by decide +kernel
theorem dX11_parse_69 : decode cX11_parse 69 = .ok (.iadd, 1) := by decide +kernel
theorem dX11_parse_70 : decode cX11_parse 70 = .ok (.if_icmp .ne 9, 3) := by decide +kernel
theorem dX11_parse_73 : decode cX11_parse 73 = .ok (.sipush 300, 3) := by decide +kernel
theorem dX11_parse_76 : decode cX11_parse 76 = .ok (.iload_n 2, 1) := by decide +kernel
theorem dX11_parse_77 : decode cX11_parse 77 = .ok (.iadd, 1) := by decide +kernel
theorem dX11_parse_78 : decode cX11_parse 78 = .ok (.ireturn, 1) := by decide +kernel
theorem dX11_parse_79 : decode cX11_parse 79 = .ok (.bipush 10, 2) := by decide +kernel
theorem dX11_parse_81 : decode cX11_parse 81 = .ok (.iload 5, 2) := by decide +kernel
theorem dX11_parse_83 : decode cX11_parse 83 = .ok (.imul, 1) := by decide +kernel
theorem dX11_parse_84 : decode cX11_parse 84 = .ok (.aload_n 0, 1) := by decide +kernel
theorem dX11_parse_85 : decode cX11_parse 85 = .ok (.getfield 120, 3) := by decide +kernel
theorem dX11_parse_88 : decode cX11_parse 88 = .ok (.iload_n 2, 1) := by decide +kernel
theorem dX11_parse_89 : decode cX11_parse 89 = .ok (.baload, 1) := by decide +kernel
theorem dX11_parse_90 : decode cX11_parse 90 = .ok (.iadd, 1) := by decide +kernel
theorem dX11_parse_91 : decode cX11_parse 91 = .ok (.bipush 48, 2) := by decide +kernel
theorem dX11_parse_93 : decode cX11_parse 93 = .ok (.isub, 1) := by decide +kernel
theorem dX11_parse_94 : decode cX11_parse 94 = .ok (.istore 5, 2) := by decide +kernel
theorem dX11_parse_96 : decode cX11_parse 96 = .ok (.iload_n 2, 1) := by decide +kernel
theorem dX11_parse_97 : decode cX11_parse 97 = .ok (.iconst 1, 1) := by decide +kernel
theorem dX11_parse_98 : decode cX11_parse 98 = .ok (.iadd, 1) := by decide +kernel
theorem dX11_parse_99 : decode cX11_parse 99 = .ok (.istore_n 2, 1) := by decide +kernel
theorem dX11_parse_100 : decode cX11_parse 100 = .ok (.goto (-44), 3) := by decide +kernel
theorem dX11_parse_103 : decode cX11_parse 103 = .ok (.iload_n 3, 1) := by decide +kernel
theorem dX11_parse_104 : decode cX11_parse 104 = .ok (.iload 5, 2) := by decide +kernel
theorem dX11_parse_106 : decode cX11_parse 106 = .ok (.invokestatic 220, 3) := by decide +kernel
theorem dX11_parse_109 : decode cX11_parse 109 = .ok (.ifCond .ne 10, 3) := by decide +kernel
theorem dX11_parse_112 : decode cX11_parse 112 = .ok (.sipush 400, 3) := by decide +kernel
theorem dX11_parse_115 : decode cX11_parse 115 = .ok (.iload 4, 2) := by decide +kernel
theorem dX11_parse_117 : decode cX11_parse 117 = .ok (.iadd, 1) := by decide +kernel
theorem dX11_parse_118 : decode cX11_parse 118 = .ok (.ireturn, 1) := by decide +kernel
theorem dX11_parse_119 : decode cX11_parse 119 = .ok (.aload_n 0, 1) := by decide +kernel
theorem dX11_parse_120 : decode cX11_parse 120 = .ok (.getfield 124, 3) := by decide +kernel
theorem dX11_parse_123 : decode cX11_parse 123 = .ok (.iload_n 3, 1) := by decide +kernel
theorem dX11_parse_124 : decode cX11_parse 124 = .ok (.iload 5, 2) := by decide +kernel
theorem dX11_parse_126 : decode cX11_parse 126 = .ok (.iastore, 1) := by decide +kernel
theorem dX11_parse_127 : decode cX11_parse 127 = .ok (.iload_n 2, 1) := by decide +kernel
theorem dX11_parse_128 : decode cX11_parse 128 = .ok (.iload_n 1, 1) := by decide +kernel
theorem dX11_parse_129 : decode cX11_parse 129 = .ok (.if_icmp .ne 5, 3) := by decide +kernel
theorem dX11_parse_132 : decode cX11_parse 132 = .ok (.iconst 0, 1) := by decide +kernel
theorem dX11_parse_133 : decode cX11_parse 133 = .ok (.ireturn, 1) := by decide +kernel
theorem dX11_parse_134 : decode cX11_parse 134 = .ok (.aload_n 0, 1) := by decide +kernel
theorem dX11_parse_135 : decode cX11_parse 135 = .ok (.getfield 120, 3) := by decide +kernel
theorem dX11_parse_138 : decode cX11_parse 138 = .ok (.iload_n 2, 1) := by decide +kernel
theorem dX11_parse_139 : decode cX11_parse 139 = .ok (.baload, 1) := by decide +kernel
theorem dX11_parse_140 : decode cX11_parse 140 = .ok (.bipush 59, 2) := by decide +kernel
theorem dX11_parse_142 : decode cX11_parse 142 = .ok (.if_icmp .eq 9, 3) := by decide +kernel
theorem dX11_parse_145 : decode cX11_parse 145 = .ok (.sipush 500, 3) := by decide +kernel
theorem dX11_parse_148 : decode cX11_parse 148 = .ok (.iload_n 2, 1) := by decide +kernel
theorem dX11_parse_149 : decode cX11_parse 149 = .ok (.iadd, 1) := by decide +kernel
theorem dX11_parse_150 : decode cX11_parse 150 = .ok (.ireturn, 1) := by decide +kernel
theorem dX11_parse_151 : decode cX11_parse 151 = .ok (.iload_n 2, 1) := by decide +kernel
theorem dX11_parse_152 : decode cX11_parse 152 = .ok (.iconst 1, 1) := by decide +kernel
theorem dX11_parse_153 : decode cX11_parse 153 = .ok (.iadd, 1) := by decide +kernel
theorem dX11_parse_154 : decode cX11_parse 154 = .ok (.istore_n 2, 1) := by decide +kernel
theorem dX11_parse_155 : decode cX11_parse 155 = .ok (.goto (-153), 3) := by decide +kernel
theorem dX11_vote_0 : decode cX11_vote 0 = .ok (.iload_n 1, 1) := by decide +kernel
theorem dX11_vote_1 : decode cX11_vote 1 = .ok (.ifCond .lt 37, 3) := by decide +kernel
theorem dX11_vote_4 : decode cX11_vote 4 = .ok (.iload_n 1, 1) := by decide +kernel
theorem dX11_vote_5 : decode cX11_vote 5 = .ok (.iconst 1, 1) := by decide +kernel
theorem dX11_vote_6 : decode cX11_vote 6 = .ok (.aload_n 0, 1) := by decide +kernel
theorem dX11_vote_7 : decode cX11_vote 7 = .ok (.getfield 7, 3) := by decide +kernel
theorem dX11_vote_10 : decode cX11_vote 10 = .ok (.iconst 0, 1) := by decide +kernel
theorem dX11_vote_11 : decode cX11_vote 11 = .ok (.iaload, 1) := by decide +kernel
theorem dX11_vote_12 : decode cX11_vote 12 = .ok (.ishl, 1) := by decide +kernel
theorem dX11_vote_13 : decode cX11_vote 13 = .ok (.if_icmp .ge 25, 3) := by decide +kernel
theorem dX11_vote_16 : decode cX11_vote 16 = .ok (.iload_n 2, 1) := by decide +kernel
theorem dX11_vote_17 : decode cX11_vote 17 = .ok (.ifCond .lt 21, 3) := by decide +kernel
theorem dX11_vote_20 : decode cX11_vote 20 = .ok (.iload_n 2, 1) := by decide +kernel
theorem dX11_vote_21 : decode cX11_vote 21 = .ok (.aload_n 0, 1) := by decide +kernel
theorem dX11_vote_22 : decode cX11_vote 22 = .ok (.getfield 208, 3) := by decide +kernel
theorem dX11_vote_25 : decode cX11_vote 25 = .ok (.if_icmp .gt 13, 3) := by decide +kernel
theorem dX11_vote_28 : decode cX11_vote 28 = .ok (.aload_n 0, 1) := by decide +kernel
theorem dX11_vote_29 : decode cX11_vote 29 = .ok (.getfield 195, 3) := by decide +kernel
theorem dX11_vote_32 : decode cX11_vote 32 = .ok (.sipush 400, 3) := by decide +kernel
theorem dX11_vote_35 : decode cX11_vote 35 = .ok (.if_icmp .ne 5, 3) := by decide +kernel
theorem dX11_vote_38 : decode cX11_vote 38 = .ok (.iconst (-1), 1) := by decide +kernel
theorem dX11_vote_39 : decode cX11_vote 39 = .ok (.ireturn, 1) := by decide +kernel
theorem dX11_vote_40 : decode cX11_vote 40 = .ok (.iconst 0, 1) := by decide +kernel
theorem dX11_vote_41 : decode cX11_vote 41 = .ok (.istore_n 3, 1) := by decide +kernel
theorem dX11_vote_42 : decode cX11_vote 42 = .ok (.iload_n 3, 1) := by decide +kernel
theorem dX11_vote_43 : decode cX11_vote 43 = .ok (.aload_n 0, 1) := by decide +kernel
theorem dX11_vote_44 : decode cX11_vote 44 = .ok (.getfield 7, 3) := by decide +kernel
theorem dX11_vote_47 : decode cX11_vote 47 = .ok (.iconst 0, 1) := by decide +kernel
theorem dX11_vote_48 : decode cX11_vote 48 = .ok (.iaload, 1) := by decide +kernel
theorem dX11_vote_49 : decode cX11_vote 49 = .ok (.if_icmp .ge 29, 3) := by decide +kernel
theorem dX11_vote_52 : decode cX11_vote 52 = .ok (.iload_n 1, 1) := by decide +kernel
theorem dX11_vote_53 : decode cX11_vote 53 = .ok (.iload_n 3, 1) := by decide +kernel
theorem dX11_vote_54 : decode cX11_vote 54 = .ok (.ishr, 1) := by decide +kernel
theorem dX11_vote_55 : decode cX11_vote 55 = .ok (.iconst 1, 1) := by decide +kernel
theorem dX11_vote_56 : decode cX11_vote 56 = .ok (.iand, 1) := by decide +kernel
theorem dX11_vote_57 : decode cX11_vote 57 = .ok (.iconst 1, 1) := by decide +kernel
theorem dX11_vote_58 : decode cX11_vote 58 = .ok (.if_icmp .ne 14, 3) := by decide +kernel
theorem dX11_vote_61 : decode cX11_vote 61 = .ok (.aload_n 0, 1) := by decide +kernel
theorem dX11_vote_62 : decode cX11_vote 62 = .ok (.getfield 96, 3) := by decide +kernel
theorem dX11_vote_65 : decode cX11_vote 65 = .ok (.iload_n 3, 1) := by decide +kernel
theorem dX11_vote_66 : decode cX11_vote 66 = .ok (.baload, 1) := by decide +kernel
theorem dX11_vote_67 : decode cX11_vote 67 = .ok (.ifCond .ne 5, 3) := by decide +kernel
theorem dX11_vote_70 : decode cX11_vote 70 = .ok (.iconst (-1), 1) := by decide +kernel
theorem dX11_vote_71 : decode cX11_vote 71 = .ok (.ireturn, 1) := by decide +kernel
theorem dX11_vote_72 : decode cX11_vote 72 = .ok (.iinc 3 1, 3) := by decide +kernel
theorem dX11_vote_75 : decode cX11_vote 75 = .ok (.goto (-33), 3) := by decide +kernel
theorem dX11_vote_78 : decode cX11_vote 78 = .ok (.aload_n 0, 1) := by decide +kernel
theorem dX11_vote_79 : decode cX11_vote 79 = .ok (.getfield 124, 3) := by decide +kernel
theorem dX11_vote_82 : decode cX11_vote 82 = .ok (.iconst 0, 1) := by decide +kernel
theorem dX11_vote_83 : decode cX11_vote 83 = .ok (.invokestatic 131, 3) := by decide +kernel
theorem dX11_vote_86 : decode cX11_vote 86 = .ok (.aload_n 0, 1) := by decide +kernel
theorem dX11_vote_87 : decode cX11_vote 87 = .ok (.iload_n 2, 1) := by decide +kernel
theorem dX11_vote_88 : decode cX11_vote 88 = .ok (.invokevirtual 223, 3) := by decide +kernel
theorem dX11_vote_91 : decode cX11_vote 91 = .ok (.istore_n 3, 1) := by decide +kernel
theorem dX11_vote_92 : decode cX11_vote 92 = .ok (.aload_n 0, 1) := by decide +kernel
theorem dX11_vote_93 : decode cX11_vote 93 = .ok (.iconst 0, 1) := by decide +kernel
theorem dX11_vote_94 : decode cX11_vote 94 = .ok (.putfield 208, 3) := by decide +kernel
theorem dX11_vote_97 : decode cX11_vote 97 = .ok (.iload_n 3, 1) := by decide +kernel
theorem dX11_vote_98 : decode cX11_vote 98 = .ok (.ifCond .le 6, 3) := by decide +kernel
theorem dX11_vote_101 : decode cX11_vote 101 = .ok (.iload_n 3, 1) := by decide +kernel
theorem dX11_vote_102 : decode cX11_vote 102 = .ok (.ineg, 1) := by decide +kernel
theorem dX11_vote_103 : decode cX11_vote 103 = .ok (.ireturn, 1) := by decide +kernel
theorem dX11_vote_104 : decode cX11_vote 104 = .ok (.iconst 0, 1) := by decide +kernel
theorem dX11_vote_105 : decode cX11_vote 105 = .ok (.istore 4, 2) := by decide +kernel
theorem dX11_vote_107 : decode cX11_vote 107 = .ok (.iload 4, 2) := by decide +kernel
theorem dX11_vote_109 : decode cX11_vote 109 = .ok (.bipush 8, 2) := by decide +kernel
theorem dX11_vote_111 : decode cX11_vote 111 = .ok (.if_icmp .ge 31, 3) := by decide +kernel
theorem dX11_vote_114 : decode cX11_vote 114 = .ok (.aload_n 0, 1) := by decide +kernel
theorem dX11_vote_115 : decode cX11_vote 115 = .ok (.getfield 114, 3) := by decide +kernel
theorem dX11_vote_118 : decode cX11_vote 118 = .ok (.bipush 8, 2) := by decide +kernel
theorem dX11_vote_120 : decode cX11_vote 120 = .ok (.aload_n 0, 1) := by decide +kernel
theorem dX11_vote_121 : decode cX11_vote 121 = .ok (.getfield 195, 3) := by decide +kernel
theorem dX11_vote_124 : decode cX11_vote 124 = .ok (.imul, 1) := by decide +kernel
theorem dX11_vote_125 : decode cX11_vote 125 = .ok (.iload 4, 2) := by decide +kernel
theorem dX11_vote_127 : decode cX11_vote 127 = .ok (.iadd, 1) := by decide +kernel
theorem dX11_vote_128 : decode cX11_vote 128 = .ok (.aload_n 0, 1) := by decide +kernel
theorem dX11_vote_129 : decode cX11_vote 129 = .ok (.getfield 124, 3) := by decide +kernel
theorem dX11_vote_132 : decode cX11_vote 132 = .ok (.iload 4, 2) := by decide +kernel
theorem dX11_vote_134 : decode cX11_vote 134 = .ok (.iaload, 1) := by decide +kernel
theorem dX11_vote_135 : decode cX11_vote 135 = .ok (.iastore, 1) := by decide +kernel
theorem dX11_vote_136 : decode cX11_vote 136 = .ok (.iinc 4 1, 3) := by decide +kernel
theorem dX11_vote_139 : decode cX11_vote 139 = .ok (.goto (-32), 3) := by decide +kernel
theorem dX11_vote_142 : decode cX11_vote 142 = .ok (.aload_n 0, 1) := by decide +kernel
theorem dX11_vote_143 : decode cX11_vote 143 = .ok (.iconst 1, 1) := by decide +kernel
theorem dX11_vote_144 : decode cX11_vote 144 = .ok (.iload_n 1, 1) := by decide +kernel
theorem dX11_vote_145 : decode cX11_vote 145 = .ok (.iconst 0, 1) := by decide +kernel
theorem dX11_vote_146 : decode cX11_vote 146 = .ok (.invokevirtual 203, 3) := by decide +kernel
theorem dX11_vote_149 : decode cX11_vote 149 = .ok (.ifCond .ne 6, 3) := by decide +kernel
theorem dX11_vote_152 : decode cX11_vote 152 = .ok (.bipush (-2), 2) := by decide +kernel
theorem dX11_vote_154 : decode cX11_vote 154 = .ok (.ireturn, 1) := by decide +kernel
theorem dX11_vote_155 : decode cX11_vote 155 = .ok (.aload_n 0, 1) := by decide +kernel
theorem dX11_vote_156 : decode cX11_vote 156 = .ok (.getfield 117, 3) := by decide +kernel
theorem dX11_vote_159 : decode cX11_vote 159 = .ok (.aload_n 0, 1) := by decide +kernel
theorem dX11_vote_160 : decode cX11_vote 160 = .ok (.getfield 226, 3) := by decide +kernel
theorem dX11_vote_163 : decode cX11_vote 163 = .ok (.aload_n 0, 1) := by decide +kernel
theorem dX11_vote_164 : decode cX11_vote 164 = .ok (.getfield 195, 3) := by decide +kernel
theorem dX11_vote_167 : decode cX11_vote 167 = .ok (.iconst 1, 1) := by decide +kernel
theorem dX11_vote_168 : decode cX11_vote 168 = .ok (.isub, 1) := by decide +kernel
theorem dX11_vote_169 : decode cX11_vote 169 = .ok (.iastore, 1) := by decide +kernel
theorem dX11_vote_170 : decode cX11_vote 170 = .ok (.aload_n 0, 1) := by decide +kernel
theorem dX11_vote_171 : decode cX11_vote 171 = .ok (.aload_n 0, 1) := by decide +kernel
theorem dX11_vote_172 : decode cX11_vote 172 = .ok (.getfield 226, 3) := by decide +kernel
theorem dX11_vote_175 : decode cX11_vote 175 = .ok (.iconst 1, 1) := by decide +kernel
theorem dX11_vote_176 : decode cX11_vote 176 = .ok (.iadd, 1) := by decide +kernel
theorem dX11_vote_177 : decode cX11_vote 177 = .ok (.putfield 226, 3) := by decide +kernel
theorem dX11_vote_180 : decode cX11_vote 180 = .ok (.aload_n 0, 1) := by decide +kernel
theorem dX11_vote_181 : decode cX11_vote 181 = .ok (.getfield 226, 3) := by decide +kernel
theorem dX11_vote_184 : decode cX11_vote 184 = .ok (.iconst 1, 1) := by decide +kernel
theorem dX11_vote_185 : decode cX11_vote 185 = .ok (.isub, 1) := by decide +kernel
theorem dX11_vote_186 : decode cX11_vote 186 = .ok (.ireturn, 1) := by decide +kernel
theorem dX11_look_0 : decode cX11_look 0 = .ok (.aload_n 0, 1) := by decide +kernel
theorem dX11_look_1 : decode cX11_look 1 = .ok (.iconst 0, 1) := by decide +kernel
theorem dX11_look_2 : decode cX11_look 2 = .ok (.iload_n 1, 1) := by decide +kernel
theorem dX11_look_3 : decode cX11_look 3 = .ok (.invokevirtual 169, 3) := by decide +kernel
theorem dX11_look_6 : decode cX11_look 6 = .ok (.ifCond .ne 5, 3) := by decide +kernel
theorem dX11_look_9 : decode cX11_look 9 = .ok (.iconst (-1), 1) := by decide +kernel
theorem dX11_look_10 : decode cX11_look 10 = .ok (.ireturn, 1) := by decide +kernel
theorem dX11_look_11 : decode cX11_look 11 = .ok (.iload_n 2, 1) := by decide +kernel
theorem dX11_look_12 : decode cX11_look 12 = .ok (.tableswitch 215 0 12 #[68, 75, 90, 98, 106, 114, 134, 142, 150, 157, 164, 172, 195], 68) := by decide +kernel
theorem dX11_look_80 : decode cX11_look 80 = .ok (.aload_n 0, 1) := by decide +kernel
theorem dX11_look_81 : decode cX11_look 81 = .ok (.getfield 51, 3) := by decide +kernel
theorem dX11_look_84 : decode cX11_look 84 = .ok (.iload_n 1, 1) := by decide +kernel
theorem dX11_look_85 : decode cX11_look 85 = .ok (.iaload, 1) := by decide +kernel
theorem dX11_look_86 : decode cX11_look 86 = .ok (.ireturn, 1) := by decide +kernel
theorem dX11_look_87 : decode cX11_look 87 = .ok (.aload_n 0, 1) := by decide +kernel
theorem dX11_look_88 : decode cX11_look 88 = .ok (.getfield 96, 3) := by decide +kernel
theorem dX11_look_91 : decode cX11_look 91 = .ok (.iload_n 1, 1) := by decide +kernel
theorem dX11_look_92 : decode cX11_look 92 = .ok (.baload, 1) := by decide +kernel
theorem dX11_look_93 : decode cX11_look 93 = .ok (.ifCond .eq 7, 3) := by decide +kernel
theorem dX11_look_96 : decode cX11_look 96 = .ok (.iconst 1, 1) := by decide +kernel
theorem dX11_look_97 : decode cX11_look 97 = .ok (.goto 4, 3) := by decide +kernel
theorem dX11_look_100 : decode cX11_look 100 = .ok (.iconst 0, 1) := by decide +kernel
theorem dX11_look_101 : decode cX11_look 101 = .ok (.ireturn, 1) := by decide +kernel
theorem dX11_look_102 : decode cX11_look 102 = .ok (.aload_n 0, 1) := by decide +kernel
theorem dX11_look_103 : decode cX11_look 103 = .ok (.getfield 72, 3) := by decide +kernel
theorem dX11_look_106 : decode cX11_look 106 = .ok (.iload_n 1, 1) := by decide +kernel
theorem dX11_look_107 : decode cX11_look 107 = .ok (.laload, 1) := by decide +kernel
theorem dX11_look_108 : decode cX11_look 108 = .ok (.l2i, 1) := by decide +kernel
theorem dX11_look_109 : decode cX11_look 109 = .ok (.ireturn, 1) := by decide +kernel
theorem dX11_look_110 : decode cX11_look 110 = .ok (.aload_n 0, 1) := by decide +kernel
theorem dX11_look_111 : decode cX11_look 111 = .ok (.getfield 75, 3) := by decide +kernel
theorem dX11_look_114 : decode cX11_look 114 = .ok (.iload_n 1, 1) := by decide +kernel
theorem dX11_look_115 : decode cX11_look 115 = .ok (.laload, 1) := by decide +kernel
theorem dX11_look_116 : decode cX11_look 116 = .ok (.l2i, 1) := by decide +kernel
theorem dX11_look_117 : decode cX11_look 117 = .ok (.ireturn, 1) := by decide +kernel
theorem dX11_look_118 : decode cX11_look 118 = .ok (.aload_n 0, 1) := by decide +kernel
theorem dX11_look_119 : decode cX11_look 119 = .ok (.getfield 78, 3) := by decide +kernel
theorem dX11_look_122 : decode cX11_look 122 = .ok (.iload_n 1, 1) := by decide +kernel
theorem dX11_look_123 : decode cX11_look 123 = .ok (.laload, 1) := by decide +kernel
theorem dX11_look_124 : decode cX11_look 124 = .ok (.l2i, 1) := by decide +kernel
theorem dX11_look_125 : decode cX11_look 125 = .ok (.ireturn, 1) := by decide +kernel
theorem dX11_look_126 : decode cX11_look 126 = .ok (.aload_n 0, 1) := by decide +kernel
theorem dX11_look_127 : decode cX11_look 127 = .ok (.getfield 99, 3) := by decide +kernel
theorem dX11_look_130 : decode cX11_look 130 = .ok (.iload_n 1, 1) := by decide +kernel
theorem dX11_look_131 : decode cX11_look 131 = .ok (.baload, 1) := by decide +kernel
theorem dX11_look_132 : decode cX11_look 132 = .ok (.ifCond .eq 12, 3) := by decide +kernel
theorem dX11_look_135 : decode cX11_look 135 = .ok (.aload_n 0, 1) := by decide +kernel
theorem dX11_look_136 : decode cX11_look 136 = .ok (.getfield 57, 3) := by decide +kernel
theorem dX11_look_139 : decode cX11_look 139 = .ok (.iload_n 1, 1) := by decide +kernel
theorem dX11_look_140 : decode cX11_look 140 = .ok (.iaload, 1) := by decide +kernel
theorem dX11_look_141 : decode cX11_look 141 = .ok (.goto 4, 3) := by decide +kernel
theorem dX11_look_144 : decode cX11_look 144 = .ok (.iconst (-1), 1) := by decide +kernel
theorem dX11_look_145 : decode cX11_look 145 = .ok (.ireturn, 1) := by decide +kernel
theorem dX11_look_146 : decode cX11_look 146 = .ok (.aload_n 0, 1) := by decide +kernel
theorem dX11_look_147 : decode cX11_look 147 = .ok (.getfield 81, 3) := by decide +kernel
theorem dX11_look_150 : decode cX11_look 150 = .ok (.iload_n 1, 1) := by decide +kernel
theorem dX11_look_151 : decode cX11_look 151 = .ok (.laload, 1) := by decide +kernel
theorem dX11_look_152 : decode cX11_look 152 = .ok (.l2i, 1) := by decide +kernel
theorem dX11_look_153 : decode cX11_look 153 = .ok (.ireturn, 1) := by decide +kernel
theorem dX11_look_154 : decode cX11_look 154 = .ok (.aload_n 0, 1) := by decide +kernel
theorem dX11_look_155 : decode cX11_look 155 = .ok (.getfield 84, 3) := by decide +kernel
theorem dX11_look_158 : decode cX11_look 158 = .ok (.iload_n 1, 1) := by decide +kernel
theorem dX11_look_159 : decode cX11_look 159 = .ok (.laload, 1) := by decide +kernel
theorem dX11_look_160 : decode cX11_look 160 = .ok (.l2i, 1) := by decide +kernel
theorem dX11_look_161 : decode cX11_look 161 = .ok (.ireturn, 1) := by decide +kernel
theorem dX11_look_162 : decode cX11_look 162 = .ok (.aload_n 0, 1) := by decide +kernel
theorem dX11_look_163 : decode cX11_look 163 = .ok (.getfield 60, 3) := by decide +kernel
theorem dX11_look_166 : decode cX11_look 166 = .ok (.iload_n 1, 1) := by decide +kernel
theorem dX11_look_167 : decode cX11_look 167 = .ok (.iaload, 1) := by decide +kernel
theorem dX11_look_168 : decode cX11_look 168 = .ok (.ireturn, 1) := by decide +kernel
theorem dX11_look_169 : decode cX11_look 169 = .ok (.aload_n 0, 1) := by decide +kernel
theorem dX11_look_170 : decode cX11_look 170 = .ok (.getfield 63, 3) := by decide +kernel
theorem dX11_look_173 : decode cX11_look 173 = .ok (.iload_n 1, 1) := by decide +kernel
theorem dX11_look_174 : decode cX11_look 174 = .ok (.iaload, 1) := by decide +kernel
theorem dX11_look_175 : decode cX11_look 175 = .ok (.ireturn, 1) := by decide +kernel
theorem dX11_look_176 : decode cX11_look 176 = .ok (.aload_n 0, 1) := by decide +kernel
theorem dX11_look_177 : decode cX11_look 177 = .ok (.getfield 87, 3) := by decide +kernel
theorem dX11_look_180 : decode cX11_look 180 = .ok (.iload_n 1, 1) := by decide +kernel
theorem dX11_look_181 : decode cX11_look 181 = .ok (.laload, 1) := by decide +kernel
theorem dX11_look_182 : decode cX11_look 182 = .ok (.l2i, 1) := by decide +kernel
theorem dX11_look_183 : decode cX11_look 183 = .ok (.ireturn, 1) := by decide +kernel
theorem dX11_look_184 : decode cX11_look 184 = .ok (.aload_n 0, 1) := by decide +kernel
theorem dX11_look_185 : decode cX11_look 185 = .ok (.getfield 90, 3) := by decide +kernel
theorem dX11_look_188 : decode cX11_look 188 = .ok (.iload_n 1, 1) := by decide +kernel
theorem dX11_look_189 : decode cX11_look 189 = .ok (.laload, 1) := by decide +kernel
theorem dX11_look_190 : decode cX11_look 190 = .ok (.lconst 0, 1) := by decide +kernel
theorem dX11_look_191 : decode cX11_look 191 = .ok (.lcmp, 1) := by decide +kernel
theorem dX11_look_192 : decode cX11_look 192 = .ok (.ifCond .ge 7, 3) := by decide +kernel
theorem dX11_look_195 : decode cX11_look 195 = .ok (.iconst 0, 1) := by decide +kernel
theorem dX11_look_196 : decode cX11_look 196 = .ok (.goto 10, 3) := by decide +kernel
theorem dX11_look_199 : decode cX11_look 199 = .ok (.aload_n 0, 1) := by decide +kernel
theorem dX11_look_200 : decode cX11_look 200 = .ok (.getfield 90, 3) := by decide +kernel
theorem dX11_look_203 : decode cX11_look 203 = .ok (.iload_n 1, 1) := by decide +kernel
theorem dX11_look_204 : decode cX11_look 204 = .ok (.laload, 1) := by decide +kernel
theorem dX11_look_205 : decode cX11_look 205 = .ok (.l2i, 1) := by decide +kernel
theorem dX11_look_206 : decode cX11_look 206 = .ok (.ireturn, 1) := by decide +kernel
theorem dX11_look_207 : decode cX11_look 207 = .ok (.aload_n 0, 1) := by decide +kernel
theorem dX11_look_208 : decode cX11_look 208 = .ok (.getfield 99, 3) := by decide +kernel
theorem dX11_look_211 : decode cX11_look 211 = .ok (.iload_n 1, 1) := by decide +kernel
theorem dX11_look_212 : decode cX11_look 212 = .ok (.baload, 1) := by decide +kernel
theorem dX11_look_213 : decode cX11_look 213 = .ok (.ifCond .eq 12, 3) := by decide +kernel
theorem dX11_look_216 : decode cX11_look 216 = .ok (.aload_n 0, 1) := by decide +kernel
theorem dX11_look_217 : decode cX11_look 217 = .ok (.getfield 54, 3) := by decide +kernel
theorem dX11_look_220 : decode cX11_look 220 = .ok (.iload_n 1, 1) := by decide +kernel
theorem dX11_look_221 : decode cX11_look 221 = .ok (.iaload, 1) := by decide +kernel
theorem dX11_look_222 : decode cX11_look 222 = .ok (.goto 4, 3) := by decide +kernel
theorem dX11_look_225 : decode cX11_look 225 = .ok (.iconst (-1), 1) := by decide +kernel
theorem dX11_look_226 : decode cX11_look 226 = .ok (.ireturn, 1) := by decide +kernel
theorem dX11_look_227 : decode cX11_look 227 = .ok (.iconst (-1), 1) := by decide +kernel
theorem dX11_look_228 : decode cX11_look 228 = .ok (.ireturn, 1) := by decide +kernel
theorem dX11_club_0 : decode cX11_club 0 = .ok (.lconst 0, 1) := by decide +kernel
theorem dX11_club_1 : decode cX11_club 1 = .ok (.lstore_n 2, 1) := by decide +kernel
theorem dX11_club_2 : decode cX11_club 2 = .ok (.iload_n 1, 1) := by decide +kernel
theorem dX11_club_3 : decode cX11_club 3 = .ok (.tableswitch 176 0 7 #[45, 52, 59, 66, 98, 130, 162, 169], 45) := by decide +kernel
theorem dX11_club_48 : decode cX11_club 48 = .ok (.aload_n 0, 1) := by decide +kernel
theorem dX11_club_49 : decode cX11_club 49 = .ok (.getfield 25, 3) := by decide +kernel
theorem dX11_club_52 : decode cX11_club 52 = .ok (.iconst 0, 1) := by decide +kernel
theorem dX11_club_53 : decode cX11_club 53 = .ok (.laload, 1) := by decide +kernel
theorem dX11_club_54 : decode cX11_club 54 = .ok (.lreturn, 1) := by decide +kernel
theorem dX11_club_55 : decode cX11_club 55 = .ok (.aload_n 0, 1) := by decide +kernel
theorem dX11_club_56 : decode cX11_club 56 = .ok (.getfield 29, 3) := by decide +kernel
theorem dX11_club_59 : decode cX11_club 59 = .ok (.iconst 0, 1) := by decide +kernel
theorem dX11_club_60 : decode cX11_club 60 = .ok (.laload, 1) := by decide +kernel
theorem dX11_club_61 : decode cX11_club 61 = .ok (.lreturn, 1) := by decide +kernel
theorem dX11_club_62 : decode cX11_club 62 = .ok (.aload_n 0, 1) := by decide +kernel
theorem dX11_club_63 : decode cX11_club 63 = .ok (.getfield 32, 3) := by decide +kernel
theorem dX11_club_66 : decode cX11_club 66 = .ok (.iconst 0, 1) := by decide +kernel
theorem dX11_club_67 : decode cX11_club 67 = .ok (.laload, 1) := by decide +kernel
theorem dX11_club_68 : decode cX11_club 68 = .ok (.lreturn, 1) := by decide +kernel
theorem dX11_club_69 : decode cX11_club 69 = .ok (.iconst 0, 1) := by decide +kernel
theorem dX11_club_70 : decode cX11_club 70 = .ok (.istore 4, 2) := by decide +kernel
theorem dX11_club_72 : decode cX11_club 72 = .ok (.iload 4, 2) := by decide +kernel
theorem dX11_club_74 : decode cX11_club 74 = .ok (.aload_n 0, 1) := by decide +kernel
theorem dX11_club_75 : decode cX11_club 75 = .ok (.getfield 7, 3) := by decide +kernel
theorem dX11_club_78 : decode cX11_club 78 = .ok (.iconst 0, 1) := by decide +kernel
theorem dX11_club_79 : decode cX11_club 79 = .ok (.iaload, 1) := by decide +kernel
theorem dX11_club_80 : decode cX11_club 80 = .ok (.if_icmp .ge 19, 3) := by decide +kernel
theorem dX11_club_83 : decode cX11_club 83 = .ok (.lload_n 2, 1) := by decide +kernel
theorem dX11_club_84 : decode cX11_club 84 = .ok (.aload_n 0, 1) := by decide +kernel
theorem dX11_club_85 : decode cX11_club 85 = .ok (.getfield 72, 3) := by decide +kernel
theorem dX11_club_88 : decode cX11_club 88 = .ok (.iload 4, 2) := by decide +kernel
theorem dX11_club_90 : decode cX11_club 90 = .ok (.laload, 1) := by decide +kernel
theorem dX11_club_91 : decode cX11_club 91 = .ok (.ladd, 1) := by decide +kernel
theorem dX11_club_92 : decode cX11_club 92 = .ok (.lstore_n 2, 1) := by decide +kernel
theorem dX11_club_93 : decode cX11_club 93 = .ok (.iinc 4 1, 3) := by decide +kernel
theorem dX11_club_96 : decode cX11_club 96 = .ok (.goto (-24), 3) := by decide +kernel
theorem dX11_club_99 : decode cX11_club 99 = .ok (.lload_n 2, 1) := by decide +kernel
theorem dX11_club_100 : decode cX11_club 100 = .ok (.lreturn, 1) := by decide +kernel
theorem dX11_club_101 : decode cX11_club 101 = .ok (.iconst 0, 1) := by decide +kernel
theorem dX11_club_102 : decode cX11_club 102 = .ok (.istore 4, 2) := by decide +kernel
theorem dX11_club_104 : decode cX11_club 104 = .ok (.iload 4, 2) := by decide +kernel
theorem dX11_club_106 : decode cX11_club 106 = .ok (.aload_n 0, 1) := by decide +kernel
theorem dX11_club_107 : decode cX11_club 107 = .ok (.getfield 7, 3) := by decide +kernel
theorem dX11_club_110 : decode cX11_club 110 = .ok (.iconst 0, 1) := by decide +kernel
theorem dX11_club_111 : decode cX11_club 111 = .ok (.iaload, 1) := by decide +kernel
theorem dX11_club_112 : decode cX11_club 112 = .ok (.if_icmp .ge 19, 3) := by decide +kernel
theorem dX11_club_115 : decode cX11_club 115 = .ok (.lload_n 2, 1) := by decide +kernel
theorem dX11_club_116 : decode cX11_club 116 = .ok (.aload_n 0, 1) := by decide +kernel
theorem dX11_club_117 : decode cX11_club 117 = .ok (.getfield 81, 3) := by decide +kernel
theorem dX11_club_120 : decode cX11_club 120 = .ok (.iload 4, 2) := by decide +kernel
theorem dX11_club_122 : decode cX11_club 122 = .ok (.laload, 1) := by decide +kernel
theorem dX11_club_123 : decode cX11_club 123 = .ok (.ladd, 1) := by decide +kernel
theorem dX11_club_124 : decode cX11_club 124 = .ok (.lstore_n 2, 1) := by decide +kernel
theorem dX11_club_125 : decode cX11_club 125 = .ok (.iinc 4 1, 3) := by decide +kernel
theorem dX11_club_128 : decode cX11_club 128 = .ok (.goto (-24), 3) := by decide +kernel
theorem dX11_club_131 : decode cX11_club 131 = .ok (.lload_n 2, 1) := by decide +kernel
theorem dX11_club_132 : decode cX11_club 132 = .ok (.lreturn, 1) := by decide +kernel
theorem dX11_club_133 : decode cX11_club 133 = .ok (.iconst 0, 1) := by decide +kernel
theorem dX11_club_134 : decode cX11_club 134 = .ok (.istore 4, 2) := by decide +kernel
theorem dX11_club_136 : decode cX11_club 136 = .ok (.iload 4, 2) := by decide +kernel
theorem dX11_club_138 : decode cX11_club 138 = .ok (.aload_n 0, 1) := by decide +kernel
theorem dX11_club_139 : decode cX11_club 139 = .ok (.getfield 7, 3) := by decide +kernel
theorem dX11_club_142 : decode cX11_club 142 = .ok (.iconst 0, 1) := by decide +kernel
theorem dX11_club_143 : decode cX11_club 143 = .ok (.iaload, 1) := by decide +kernel
theorem dX11_club_144 : decode cX11_club 144 = .ok (.if_icmp .ge 19, 3) := by decide +kernel
theorem dX11_club_147 : decode cX11_club 147 = .ok (.lload_n 2, 1) := by decide +kernel
theorem dX11_club_148 : decode cX11_club 148 = .ok (.aload_n 0, 1) := by decide +kernel
theorem dX11_club_149 : decode cX11_club 149 = .ok (.getfield 87, 3) := by decide +kernel
theorem dX11_club_152 : decode cX11_club 152 = .ok (.iload 4, 2) := by decide +kernel
theorem dX11_club_154 : decode cX11_club 154 = .ok (.laload, 1) := by decide +kernel
theorem dX11_club_155 : decode cX11_club 155 = .ok (.ladd, 1) := by decide +kernel
theorem dX11_club_156 : decode cX11_club 156 = .ok (.lstore_n 2, 1) := by decide +kernel
theorem dX11_club_157 : decode cX11_club 157 = .ok (.iinc 4 1, 3) := by decide +kernel
theorem dX11_club_160 : decode cX11_club 160 = .ok (.goto (-24), 3) := by decide +kernel
theorem dX11_club_163 : decode cX11_club 163 = .ok (.lload_n 2, 1) := by decide +kernel
theorem dX11_club_164 : decode cX11_club 164 = .ok (.lreturn, 1) := by decide +kernel
theorem dX11_club_165 : decode cX11_club 165 = .ok (.aload_n 0, 1) := by decide +kernel
theorem dX11_club_166 : decode cX11_club 166 = .ok (.getfield 35, 3) := by decide +kernel
theorem dX11_club_169 : decode cX11_club 169 = .ok (.iconst 0, 1) := by decide +kernel
theorem dX11_club_170 : decode cX11_club 170 = .ok (.laload, 1) := by decide +kernel
theorem dX11_club_171 : decode cX11_club 171 = .ok (.lreturn, 1) := by decide +kernel
theorem dX11_club_172 : decode cX11_club 172 = .ok (.aload_n 0, 1) := by decide +kernel
theorem dX11_club_173 : decode cX11_club 173 = .ok (.getfield 38, 3) := by decide +kernel
theorem dX11_club_176 : decode cX11_club 176 = .ok (.iconst 0, 1) := by decide +kernel
theorem dX11_club_177 : decode cX11_club 177 = .ok (.laload, 1) := by decide +kernel
theorem dX11_club_178 : decode cX11_club 178 = .ok (.lreturn, 1) := by decide +kernel
theorem dX11_club_179 : decode cX11_club 179 = .ok (.ldc2_w 178, 3) := by decide +kernel
theorem dX11_club_182 : decode cX11_club 182 = .ok (.lreturn, 1) := by decide +kernel
theorem dX11_rule_0 : decode cX11_rule 0 = .ok (.iload_n 1, 1) := by decide +kernel
theorem dX11_rule_1 : decode cX11_rule 1 = .ok (.invokestatic 214, 3) := by decide +kernel
theorem dX11_rule_4 : decode cX11_rule 4 = .ok (.istore_n 2, 1) := by decide +kernel
theorem dX11_rule_5 : decode cX11_rule 5 = .ok (.iload_n 2, 1) := by decide +kernel
theorem dX11_rule_6 : decode cX11_rule 6 = .ok (.iconst (-1), 1) := by decide +kernel
theorem dX11_rule_7 : decode cX11_rule 7 = .ok (.if_icmp .ne 7, 3) := by decide +kernel
theorem dX11_rule_10 : decode cX11_rule 10 = .ok (.iconst (-1), 1) := by decide +kernel
theorem dX11_rule_11 : decode cX11_rule 11 = .ok (.goto 9, 3) := by decide +kernel
theorem dX11_rule_14 : decode cX11_rule 14 = .ok (.aload_n 0, 1) := by decide +kernel
theorem dX11_rule_15 : decode cX11_rule 15 = .ok (.getfield 44, 3) := by decide +kernel
theorem dX11_rule_18 : decode cX11_rule 18 = .ok (.iload_n 2, 1) := by decide +kernel
theorem dX11_rule_19 : decode cX11_rule 19 = .ok (.iaload, 1) := by decide +kernel
theorem dX11_rule_20 : decode cX11_rule 20 = .ok (.ireturn, 1) := by decide +kernel
theorem dX11_haveAll_0 : decode cX11_haveAll 0 = .ok (.iconst 1, 1) := by decide +kernel
theorem dX11_haveAll_1 : decode cX11_haveAll 1 = .ok (.istore_n 2, 1) := by decide +kernel
theorem dX11_haveAll_2 : decode cX11_haveAll 2 = .ok (.iconst 0, 1) := by decide +kernel
theorem dX11_haveAll_3 : decode cX11_haveAll 3 = .ok (.istore_n 3, 1) := by decide +kernel
theorem dX11_haveAll_4 : decode cX11_haveAll 4 = .ok (.iload_n 3, 1) := by decide +kernel
theorem dX11_haveAll_5 : decode cX11_haveAll 5 = .ok (.aload_n 0, 1) := by decide +kernel
theorem dX11_haveAll_6 : decode cX11_haveAll 6 = .ok (.getfield 7, 3) := by decide +kernel
theorem dX11_haveAll_9 : decode cX11_haveAll 9 = .ok (.iload_n 1, 1) := by decide +kernel
theorem dX11_haveAll_10 : decode cX11_haveAll 10 = .ok (.iaload, 1) := by decide +kernel
theorem dX11_haveAll_11 : decode cX11_haveAll 11 = .ok (.if_icmp .ge 47, 3) := by decide +kernel
theorem dX11_haveAll_14 : decode cX11_haveAll 14 = .ok (.iload_n 2, 1) := by decide +kernel
theorem dX11_haveAll_15 : decode cX11_haveAll 15 = .ok (.ifCond .eq 35, 3) := by decide +kernel
theorem dX11_haveAll_18 : decode cX11_haveAll 18 = .ok (.aload_n 0, 1) := by decide +kernel
theorem dX11_haveAll_19 : decode cX11_haveAll 19 = .ok (.getfield 96, 3) := by decide +kernel
theorem dX11_haveAll_22 : decode cX11_haveAll 22 = .ok (.bipush 12, 2) := by decide +kernel
theorem dX11_haveAll_24 : decode cX11_haveAll 24 = .ok (.iload_n 1, 1) := by decide +kernel
theorem dX11_haveAll_25 : decode cX11_haveAll 25 = .ok (.imul, 1) := by decide +kernel
theorem dX11_haveAll_26 : decode cX11_haveAll 26 = .ok (.iload_n 3, 1) := by decide +kernel
theorem dX11_haveAll_27 : decode cX11_haveAll 27 = .ok (.iadd, 1) := by decide +kernel
theorem dX11_haveAll_28 : decode cX11_haveAll 28 = .ok (.baload, 1) := by decide +kernel
theorem dX11_haveAll_29 : decode cX11_haveAll 29 = .ok (.ifCond .eq 17, 3) := by decide +kernel
theorem dX11_haveAll_32 : decode cX11_haveAll 32 = .ok (.aload_n 0, 1) := by decide +kernel
theorem dX11_haveAll_33 : decode cX11_haveAll 33 = .ok (.getfield 99, 3) := by decide +kernel
theorem dX11_haveAll_36 : decode cX11_haveAll 36 = .ok (.bipush 12, 2) := by decide +kernel
theorem dX11_haveAll_38 : decode cX11_haveAll 38 = .ok (.iload_n 1, 1) := by decide +kernel
theorem dX11_haveAll_39 : decode cX11_haveAll 39 = .ok (.imul, 1) := by decide +kernel
theorem dX11_haveAll_40 : decode cX11_haveAll 40 = .ok (.iload_n 3, 1) := by decide +kernel
theorem dX11_haveAll_41 : decode cX11_haveAll 41 = .ok (.iadd, 1) := by decide +kernel
theorem dX11_haveAll_42 : decode cX11_haveAll 42 = .ok (.baload, 1) := by decide +kernel
theorem dX11_haveAll_43 : decode cX11_haveAll 43 = .ok (.ifCond .eq 7, 3) := by decide +kernel
theorem dX11_haveAll_46 : decode cX11_haveAll 46 = .ok (.iconst 1, 1) := by decide +kernel
theorem dX11_haveAll_47 : decode cX11_haveAll 47 = .ok (.goto 4, 3) := by decide +kernel
theorem dX11_haveAll_50 : decode cX11_haveAll 50 = .ok (.iconst 0, 1) := by decide +kernel
theorem dX11_haveAll_51 : decode cX11_haveAll 51 = .ok (.istore_n 2, 1) := by decide +kernel
theorem dX11_haveAll_52 : decode cX11_haveAll 52 = .ok (.iinc 3 1, 3) := by decide +kernel
theorem dX11_haveAll_55 : decode cX11_haveAll 55 = .ok (.goto (-51), 3) := by decide +kernel
theorem dX11_haveAll_58 : decode cX11_haveAll 58 = .ok (.iload_n 2, 1) := by decide +kernel
theorem dX11_haveAll_59 : decode cX11_haveAll 59 = .ok (.ireturn, 1) := by decide +kernel
theorem dX11_endOf_0 : decode cX11_endOf 0 = .ok (.aload_n 0, 1) := by decide +kernel
theorem dX11_endOf_1 : decode cX11_endOf 1 = .ok (.iload_n 1, 1) := by decide +kernel
theorem dX11_endOf_2 : decode cX11_endOf 2 = .ok (.iconst 2, 1) := by decide +kernel
theorem dX11_endOf_3 : decode cX11_endOf 3 = .ok (.invokevirtual 229, 3) := by decide +kernel
theorem dX11_endOf_6 : decode cX11_endOf 6 = .ok (.aload_n 0, 1) := by decide +kernel
theorem dX11_endOf_7 : decode cX11_endOf 7 = .ok (.getfield 47, 3) := by decide +kernel
theorem dX11_endOf_10 : decode cX11_endOf 10 = .ok (.iconst 2, 1) := by decide +kernel
theorem dX11_endOf_11 : decode cX11_endOf 11 = .ok (.iconst 1, 1) := by decide +kernel
theorem dX11_endOf_12 : decode cX11_endOf 12 = .ok (.bastore, 1) := by decide +kernel
theorem dX11_endOf_13 : decode cX11_endOf 13 = .ok (.aload_n 0, 1) := by decide +kernel
theorem dX11_endOf_14 : decode cX11_endOf 14 = .ok (.getfield 16, 3) := by decide +kernel
theorem dX11_endOf_17 : decode cX11_endOf 17 = .ok (.iconst 2, 1) := by decide +kernel
theorem dX11_endOf_18 : decode cX11_endOf 18 = .ok (.iconst 0, 1) := by decide +kernel
theorem dX11_endOf_19 : decode cX11_endOf 19 = .ok (.iastore, 1) := by decide +kernel
theorem dX11_endOf_20 : decode cX11_endOf 20 = .ok (.iconst 0, 1) := by decide +kernel
theorem dX11_endOf_21 : decode cX11_endOf 21 = .ok (.istore_n 2, 1) := by decide +kernel
theorem dX11_endOf_22 : decode cX11_endOf 22 = .ok (.iload_n 2, 1) := by decide +kernel
theorem dX11_endOf_23 : decode cX11_endOf 23 = .ok (.aload_n 0, 1) := by decide +kernel
theorem dX11_endOf_24 : decode cX11_endOf 24 = .ok (.getfield 7, 3) := by decide +kernel
theorem dX11_endOf_27 : decode cX11_endOf 27 = .ok (.iconst 2, 1) := by decide +kernel
theorem dX11_endOf_28 : decode cX11_endOf 28 = .ok (.iaload, 1) := by decide +kernel
theorem dX11_endOf_29 : decode cX11_endOf 29 = .ok (.if_icmp .ge 19, 3) := by decide +kernel
theorem dX11_endOf_32 : decode cX11_endOf 32 = .ok (.aload_n 0, 1) := by decide +kernel
theorem dX11_endOf_33 : decode cX11_endOf 33 = .ok (.getfield 63, 3) := by decide +kernel
theorem dX11_endOf_36 : decode cX11_endOf 36 = .ok (.bipush 24, 2) := by decide +kernel
theorem dX11_endOf_38 : decode cX11_endOf 38 = .ok (.iload_n 2, 1) := by decide +kernel
theorem dX11_endOf_39 : decode cX11_endOf 39 = .ok (.iadd, 1) := by decide +kernel
theorem dX11_endOf_40 : decode cX11_endOf 40 = .ok (.iconst 0, 1) := by decide +kernel
theorem dX11_endOf_41 : decode cX11_endOf 41 = .ok (.iastore, 1) := by decide +kernel
theorem dX11_endOf_42 : decode cX11_endOf 42 = .ok (.iinc 2 1, 3) := by decide +kernel
theorem dX11_endOf_45 : decode cX11_endOf 45 = .ok (.goto (-23), 3) := by decide +kernel
theorem dX11_endOf_48 : decode cX11_endOf 48 = .ok (.aload_n 0, 1) := by decide +kernel
theorem dX11_endOf_49 : decode cX11_endOf 49 = .ok (.getfield 13, 3) := by decide +kernel
theorem dX11_endOf_52 : decode cX11_endOf 52 = .ok (.iconst 2, 1) := by decide +kernel
theorem dX11_endOf_53 : decode cX11_endOf 53 = .ok (.iaload, 1) := by decide +kernel
theorem dX11_endOf_54 : decode cX11_endOf 54 = .ok (.istore_n 2, 1) := by decide +kernel
theorem dX11_endOf_55 : decode cX11_endOf 55 = .ok (.aload_n 0, 1) := by decide +kernel
theorem dX11_endOf_56 : decode cX11_endOf 56 = .ok (.iconst 2, 1) := by decide +kernel
theorem dX11_endOf_57 : decode cX11_endOf 57 = .ok (.invokevirtual 233, 3) := by decide +kernel
theorem dX11_endOf_60 : decode cX11_endOf 60 = .ok (.ifCond .ne 55, 3) := by decide +kernel
theorem dX11_endOf_63 : decode cX11_endOf 63 = .ok (.aload_n 0, 1) := by decide +kernel
theorem dX11_endOf_64 : decode cX11_endOf 64 = .ok (.getfield 13, 3) := by decide +kernel
theorem dX11_endOf_67 : decode cX11_endOf 67 = .ok (.iconst 2, 1) := by decide +kernel
theorem dX11_endOf_68 : decode cX11_endOf 68 = .ok (.iaload, 1) := by decide +kernel
theorem dX11_endOf_69 : decode cX11_endOf 69 = .ok (.iload_n 2, 1) := by decide +kernel
theorem dX11_endOf_70 : decode cX11_endOf 70 = .ok (.sipush 2000, 3) := by decide +kernel
theorem dX11_endOf_73 : decode cX11_endOf 73 = .ok (.iadd, 1) := by decide +kernel
theorem dX11_endOf_74 : decode cX11_endOf 74 = .ok (.if_icmp .ne 5, 3) := by decide +kernel
theorem dX11_endOf_77 : decode cX11_endOf 77 = .ok (.iconst (-1), 1) := by decide +kernel
theorem dX11_endOf_78 : decode cX11_endOf 78 = .ok (.ireturn, 1) := by decide +kernel
theorem dX11_endOf_79 : decode cX11_endOf 79 = .ok (.iconst 0, 1) := by decide +kernel
theorem dX11_endOf_80 : decode cX11_endOf 80 = .ok (.istore_n 3, 1) := by decide +kernel
theorem dX11_endOf_81 : decode cX11_endOf 81 = .ok (.iload_n 3, 1) := by decide +kernel
theorem dX11_endOf_82 : decode cX11_endOf 82 = .ok (.aload_n 0, 1) := by decide +kernel
theorem dX11_endOf_83 : decode cX11_endOf 83 = .ok (.getfield 7, 3) := by decide +kernel
theorem dX11_endOf_86 : decode cX11_endOf 86 = .ok (.iconst 2, 1) := by decide +kernel
theorem dX11_endOf_87 : decode cX11_endOf 87 = .ok (.iaload, 1) := by decide +kernel
theorem dX11_endOf_88 : decode cX11_endOf 88 = .ok (.if_icmp .ge 19, 3) := by decide +kernel
theorem dX11_endOf_91 : decode cX11_endOf 91 = .ok (.aload_n 0, 1) := by decide +kernel
theorem dX11_endOf_92 : decode cX11_endOf 92 = .ok (.getfield 102, 3) := by decide +kernel
theorem dX11_endOf_95 : decode cX11_endOf 95 = .ok (.bipush 24, 2) := by decide +kernel
theorem dX11_endOf_97 : decode cX11_endOf 97 = .ok (.iload_n 3, 1) := by decide +kernel
theorem dX11_endOf_98 : decode cX11_endOf 98 = .ok (.iadd, 1) := by decide +kernel
theorem dX11_endOf_99 : decode cX11_endOf 99 = .ok (.iconst 1, 1) := by decide +kernel
theorem dX11_endOf_100 : decode cX11_endOf 100 = .ok (.bastore, 1) := by decide +kernel
theorem dX11_endOf_101 : decode cX11_endOf 101 = .ok (.iinc 3 1, 3) := by decide +kernel
theorem dX11_endOf_104 : decode cX11_endOf 104 = .ok (.goto (-23), 3) := by decide +kernel
theorem dX11_endOf_107 : decode cX11_endOf 107 = .ok (.aload_n 0, 1) := by decide +kernel
theorem dX11_endOf_108 : decode cX11_endOf 108 = .ok (.iconst 2, 1) := by decide +kernel
theorem dX11_endOf_109 : decode cX11_endOf 109 = .ok (.invokevirtual 192, 3) := by decide +kernel
theorem dX11_endOf_112 : decode cX11_endOf 112 = .ok (.goto (-57), 3) := by decide +kernel
theorem dX11_endOf_115 : decode cX11_endOf 115 = .ok (.aload_n 0, 1) := by decide +kernel
theorem dX11_endOf_116 : decode cX11_endOf 116 = .ok (.getfield 13, 3) := by decide +kernel
theorem dX11_endOf_119 : decode cX11_endOf 119 = .ok (.iconst 2, 1) := by decide +kernel
theorem dX11_endOf_120 : decode cX11_endOf 120 = .ok (.iaload, 1) := by decide +kernel
theorem dX11_endOf_121 : decode cX11_endOf 121 = .ok (.ireturn, 1) := by decide +kernel
theorem dX11_end_0 : decode cX11_end 0 = .ok (.aload_n 0, 1) := by decide +kernel
theorem dX11_end_1 : decode cX11_end 1 = .ok (.iconst 0, 1) := by decide +kernel
theorem dX11_end_2 : decode cX11_end 2 = .ok (.invokevirtual 236, 3) := by decide +kernel
theorem dX11_end_5 : decode cX11_end 5 = .ok (.ireturn, 1) := by decide +kernel
theorem dX11_beside_0 : decode cX11_beside 0 = .ok (.iload_n 1, 1) := by decide +kernel
theorem dX11_beside_1 : decode cX11_beside 1 = .ok (.ifCond .lt 11, 3) := by decide +kernel
theorem dX11_beside_4 : decode cX11_beside 4 = .ok (.iload_n 1, 1) := by decide +kernel
theorem dX11_beside_5 : decode cX11_beside 5 = .ok (.aload_n 0, 1) := by decide +kernel
theorem dX11_beside_6 : decode cX11_beside 6 = .ok (.getfield 226, 3) := by decide +kernel
theorem dX11_beside_9 : decode cX11_beside 9 = .ok (.if_icmp .lt 7, 3) := by decide +kernel
theorem dX11_beside_12 : decode cX11_beside 12 = .ok (.ldc2_w 178, 3) := by decide +kernel
theorem dX11_beside_15 : decode cX11_beside 15 = .ok (.lreturn, 1) := by decide +kernel
theorem dX11_beside_16 : decode cX11_beside 16 = .ok (.aload_n 0, 1) := by decide +kernel
theorem dX11_beside_17 : decode cX11_beside 17 = .ok (.iconst 1, 1) := by decide +kernel
theorem dX11_beside_18 : decode cX11_beside 18 = .ok (.invokevirtual 127, 3) := by decide +kernel
theorem dX11_beside_21 : decode cX11_beside 21 = .ok (.iconst 0, 1) := by decide +kernel
theorem dX11_beside_22 : decode cX11_beside 22 = .ok (.istore_n 3, 1) := by decide +kernel
theorem dX11_beside_23 : decode cX11_beside 23 = .ok (.iload_n 3, 1) := by decide +kernel
theorem dX11_beside_24 : decode cX11_beside 24 = .ok (.aload_n 0, 1) := by decide +kernel
theorem dX11_beside_25 : decode cX11_beside 25 = .ok (.getfield 195, 3) := by decide +kernel
theorem dX11_beside_28 : decode cX11_beside 28 = .ok (.if_icmp .ge 44, 3) := by decide +kernel
theorem dX11_beside_31 : decode cX11_beside 31 = .ok (.iload_n 3, 1) := by decide +kernel
theorem dX11_beside_32 : decode cX11_beside 32 = .ok (.aload_n 0, 1) := by decide +kernel
theorem dX11_beside_33 : decode cX11_beside 33 = .ok (.getfield 117, 3) := by decide +kernel
theorem dX11_beside_36 : decode cX11_beside 36 = .ok (.iload_n 1, 1) := by decide +kernel
theorem dX11_beside_37 : decode cX11_beside 37 = .ok (.iaload, 1) := by decide +kernel
theorem dX11_beside_38 : decode cX11_beside 38 = .ok (.if_icmp .eq 28, 3) := by decide +kernel
theorem dX11_beside_41 : decode cX11_beside 41 = .ok (.aload_n 0, 1) := by decide +kernel
theorem dX11_beside_42 : decode cX11_beside 42 = .ok (.iconst 1, 1) := by decide +kernel
theorem dX11_beside_43 : decode cX11_beside 43 = .ok (.aload_n 0, 1) := by decide +kernel
theorem dX11_beside_44 : decode cX11_beside 44 = .ok (.getfield 105, 3) := by decide +kernel
theorem dX11_beside_47 : decode cX11_beside 47 = .ok (.iload_n 3, 1) := by decide +kernel
theorem dX11_beside_48 : decode cX11_beside 48 = .ok (.iaload, 1) := by decide +kernel
theorem dX11_beside_49 : decode cX11_beside 49 = .ok (.aload_n 0, 1) := by decide +kernel
theorem dX11_beside_50 : decode cX11_beside 50 = .ok (.getfield 108, 3) := by decide +kernel
theorem dX11_beside_53 : decode cX11_beside 53 = .ok (.iload_n 3, 1) := by decide +kernel
theorem dX11_beside_54 : decode cX11_beside 54 = .ok (.iaload, 1) := by decide +kernel
theorem dX11_beside_55 : decode cX11_beside 55 = .ok (.aload_n 0, 1) := by decide +kernel
theorem dX11_beside_56 : decode cX11_beside 56 = .ok (.getfield 111, 3) := by decide +kernel
theorem dX11_beside_59 : decode cX11_beside 59 = .ok (.iload_n 3, 1) := by decide +kernel
theorem dX11_beside_60 : decode cX11_beside 60 = .ok (.iaload, 1) := by decide +kernel
theorem dX11_beside_61 : decode cX11_beside 61 = .ok (.iload_n 3, 1) := by decide +kernel
theorem dX11_beside_62 : decode cX11_beside 62 = .ok (.invokevirtual 199, 3) := by decide +kernel
theorem dX11_beside_65 : decode cX11_beside 65 = .ok (.pop, 1) := by decide +kernel
theorem dX11_beside_66 : decode cX11_beside 66 = .ok (.iinc 3 1, 3) := by decide +kernel
theorem dX11_beside_69 : decode cX11_beside 69 = .ok (.goto (-46), 3) := by decide +kernel
theorem dX11_beside_72 : decode cX11_beside 72 = .ok (.iload_n 2, 1) := by decide +kernel
theorem dX11_beside_73 : decode cX11_beside 73 = .ok (.tableswitch 49 0 2 #[27, 34, 42], 27) := by decide +kernel
theorem dX11_beside_100 : decode cX11_beside 100 = .ok (.aload_n 0, 1) := by decide +kernel
theorem dX11_beside_101 : decode cX11_beside 101 = .ok (.getfield 25, 3) := by decide +kernel
theorem dX11_beside_104 : decode cX11_beside 104 = .ok (.iconst 1, 1) := by decide +kernel
theorem dX11_beside_105 : decode cX11_beside 105 = .ok (.laload, 1) := by decide +kernel
theorem dX11_beside_106 : decode cX11_beside 106 = .ok (.lreturn, 1) := by decide +kernel
theorem dX11_beside_107 : decode cX11_beside 107 = .ok (.aload_n 0, 1) := by decide +kernel
theorem dX11_beside_108 : decode cX11_beside 108 = .ok (.getfield 22, 3) := by decide +kernel
theorem dX11_beside_111 : decode cX11_beside 111 = .ok (.iconst 1, 1) := by decide +kernel
theorem dX11_beside_112 : decode cX11_beside 112 = .ok (.iaload, 1) := by decide +kernel
theorem dX11_beside_113 : decode cX11_beside 113 = .ok (.i2l, 1) := by decide +kernel
theorem dX11_beside_114 : decode cX11_beside 114 = .ok (.lreturn, 1) := by decide +kernel
theorem dX11_beside_115 : decode cX11_beside 115 = .ok (.aload_n 0, 1) := by decide +kernel
theorem dX11_beside_116 : decode cX11_beside 116 = .ok (.iconst 1, 1) := by decide +kernel
theorem dX11_beside_117 : decode cX11_beside 117 = .ok (.invokevirtual 236, 3) := by decide +kernel
theorem dX11_beside_120 : decode cX11_beside 120 = .ok (.i2l, 1) := by decide +kernel
theorem dX11_beside_121 : decode cX11_beside 121 = .ok (.lreturn, 1) := by decide +kernel
theorem dX11_beside_122 : decode cX11_beside 122 = .ok (.iload_n 2, 1) := by decide +kernel
theorem dX11_beside_123 : decode cX11_beside 123 = .ok (.bipush 10, 2) := by decide +kernel
theorem dX11_beside_125 : decode cX11_beside 125 = .ok (.if_icmp .lt 31, 3) := by decide +kernel
theorem dX11_beside_128 : decode cX11_beside 128 = .ok (.iload_n 2, 1) := by decide +kernel
theorem dX11_beside_129 : decode cX11_beside 129 = .ok (.bipush 10, 2) := by decide +kernel
theorem dX11_beside_131 : decode cX11_beside 131 = .ok (.aload_n 0, 1) := by decide +kernel
theorem dX11_beside_132 : decode cX11_beside 132 = .ok (.getfield 7, 3) := by decide +kernel
theorem dX11_beside_135 : decode cX11_beside 135 = .ok (.iconst 1, 1) := by decide +kernel
theorem dX11_beside_136 : decode cX11_beside 136 = .ok (.iaload, 1) := by decide +kernel
theorem dX11_beside_137 : decode cX11_beside 137 = .ok (.iadd, 1) := by decide +kernel
theorem dX11_beside_138 : decode cX11_beside 138 = .ok (.if_icmp .ge 18, 3) := by decide +kernel
theorem dX11_beside_141 : decode cX11_beside 141 = .ok (.aload_n 0, 1) := by decide +kernel
theorem dX11_beside_142 : decode cX11_beside 142 = .ok (.getfield 72, 3) := by decide +kernel
theorem dX11_beside_145 : decode cX11_beside 145 = .ok (.bipush 12, 2) := by decide +kernel
theorem dX11_beside_147 : decode cX11_beside 147 = .ok (.iload_n 2, 1) := by decide +kernel
theorem dX11_beside_148 : decode cX11_beside 148 = .ok (.iadd, 1) := by decide +kernel
theorem dX11_beside_149 : decode cX11_beside 149 = .ok (.bipush 10, 2) := by decide +kernel
theorem dX11_beside_151 : decode cX11_beside 151 = .ok (.isub, 1) := by decide +kernel
theorem dX11_beside_152 : decode cX11_beside 152 = .ok (.laload, 1) := by decide +kernel
theorem dX11_beside_153 : decode cX11_beside 153 = .ok (.goto 6, 3) := by decide +kernel
theorem dX11_beside_156 : decode cX11_beside 156 = .ok (.ldc2_w 178, 3) := by decide +kernel
theorem dX11_beside_159 : decode cX11_beside 159 = .ok (.lreturn, 1) := by decide +kernel
theorem dX11_count_0 : decode cX11_count 0 = .ok (.iconst 0, 1) := by decide +kernel
theorem dX11_count_1 : decode cX11_count 1 = .ok (.istore_n 2, 1) := by decide +kernel
theorem dX11_count_2 : decode cX11_count 2 = .ok (.iload_n 1, 1) := by decide +kernel
theorem dX11_count_3 : decode cX11_count 3 = .ok (.tableswitch 170 0 7 #[45, 52, 89, 96, 103, 155, 160, 165], 45) := by decide +kernel
theorem dX11_count_48 : decode cX11_count 48 = .ok (.aload_n 0, 1) := by decide +kernel
theorem dX11_count_49 : decode cX11_count 49 = .ok (.getfield 7, 3) := by decide +kernel
theorem dX11_count_52 : decode cX11_count 52 = .ok (.iconst 0, 1) := by decide +kernel
theorem dX11_count_53 : decode cX11_count 53 = .ok (.iaload, 1) := by decide +kernel
theorem dX11_count_54 : decode cX11_count 54 = .ok (.ireturn, 1) := by decide +kernel
theorem dX11_count_55 : decode cX11_count 55 = .ok (.iconst 0, 1) := by decide +kernel
theorem dX11_count_56 : decode cX11_count 56 = .ok (.istore_n 3, 1) := by decide +kernel
theorem dX11_count_57 : decode cX11_count 57 = .ok (.iload_n 3, 1) := by decide +kernel
theorem dX11_count_58 : decode cX11_count 58 = .ok (.aload_n 0, 1) := by decide +kernel
theorem dX11_count_59 : decode cX11_count 59 = .ok (.getfield 7, 3) := by decide +kernel
theorem dX11_count_62 : decode cX11_count 62 = .ok (.iconst 0, 1) := by decide +kernel
theorem dX11_count_63 : decode cX11_count 63 = .ok (.iaload, 1) := by decide +kernel
theorem dX11_count_64 : decode cX11_count 64 = .ok (.if_icmp .ge 26, 3) := by decide +kernel
theorem dX11_count_67 : decode cX11_count 67 = .ok (.iload_n 2, 1) := by decide +kernel
theorem dX11_count_68 : decode cX11_count 68 = .ok (.aload_n 0, 1) := by decide +kernel
theorem dX11_count_69 : decode cX11_count 69 = .ok (.getfield 96, 3) := by decide +kernel
theorem dX11_count_72 : decode cX11_count 72 = .ok (.iload_n 3, 1) := by decide +kernel
theorem dX11_count_73 : decode cX11_count 73 = .ok (.baload, 1) := by decide +kernel
theorem dX11_count_74 : decode cX11_count 74 = .ok (.ifCond .eq 7, 3) := by decide +kernel
theorem dX11_count_77 : decode cX11_count 77 = .ok (.iconst 1, 1) := by decide +kernel
theorem dX11_count_78 : decode cX11_count 78 = .ok (.goto 4, 3) := by decide +kernel
theorem dX11_count_81 : decode cX11_count 81 = .ok (.iconst 0, 1) := by decide +kernel
theorem dX11_count_82 : decode cX11_count 82 = .ok (.iadd, 1) := by decide +kernel
theorem dX11_count_83 : decode cX11_count 83 = .ok (.istore_n 2, 1) := by decide +kernel
theorem dX11_count_84 : decode cX11_count 84 = .ok (.iinc 3 1, 3) := by decide +kernel
theorem dX11_count_87 : decode cX11_count 87 = .ok (.goto (-30), 3) := by decide +kernel
theorem dX11_count_90 : decode cX11_count 90 = .ok (.iload_n 2, 1) := by decide +kernel
theorem dX11_count_91 : decode cX11_count 91 = .ok (.ireturn, 1) := by decide +kernel
theorem dX11_count_92 : decode cX11_count 92 = .ok (.aload_n 0, 1) := by decide +kernel
theorem dX11_count_93 : decode cX11_count 93 = .ok (.getfield 13, 3) := by decide +kernel
theorem dX11_count_96 : decode cX11_count 96 = .ok (.iconst 0, 1) := by decide +kernel
theorem dX11_count_97 : decode cX11_count 97 = .ok (.iaload, 1) := by decide +kernel
theorem dX11_count_98 : decode cX11_count 98 = .ok (.ireturn, 1) := by decide +kernel
theorem dX11_count_99 : decode cX11_count 99 = .ok (.aload_n 0, 1) := by decide +kernel
theorem dX11_count_100 : decode cX11_count 100 = .ok (.getfield 22, 3) := by decide +kernel
theorem dX11_count_103 : decode cX11_count 103 = .ok (.iconst 0, 1) := by decide +kernel
theorem dX11_count_104 : decode cX11_count 104 = .ok (.iaload, 1) := by decide +kernel
theorem dX11_count_105 : decode cX11_count 105 = .ok (.ireturn, 1) := by decide +kernel
theorem dX11_count_106 : decode cX11_count 106 = .ok (.iconst 0, 1) := by decide +kernel
theorem dX11_count_107 : decode cX11_count 107 = .ok (.istore_n 3, 1) := by decide +kernel
theorem dX11_count_108 : decode cX11_count 108 = .ok (.iload_n 3, 1) := by decide +kernel
theorem dX11_count_109 : decode cX11_count 109 = .ok (.aload_n 0, 1) := by decide +kernel
theorem dX11_count_110 : decode cX11_count 110 = .ok (.getfield 7, 3) := by decide +kernel
theorem dX11_count_113 : decode cX11_count 113 = .ok (.iconst 0, 1) := by decide +kernel
theorem dX11_count_114 : decode cX11_count 114 = .ok (.iaload, 1) := by decide +kernel
theorem dX11_count_115 : decode cX11_count 115 = .ok (.if_icmp .ge 41, 3) := by decide +kernel
theorem dX11_count_118 : decode cX11_count 118 = .ok (.iload_n 2, 1) := by decide +kernel
theorem dX11_count_119 : decode cX11_count 119 = .ok (.aload_n 0, 1) := by decide +kernel
theorem dX11_count_120 : decode cX11_count 120 = .ok (.getfield 99, 3) := by decide +kernel
theorem dX11_count_123 : decode cX11_count 123 = .ok (.iload_n 3, 1) := by decide +kernel
theorem dX11_count_124 : decode cX11_count 124 = .ok (.baload, 1) := by decide +kernel
theorem dX11_count_125 : decode cX11_count 125 = .ok (.ifCond .eq 22, 3) := by decide +kernel
theorem dX11_count_128 : decode cX11_count 128 = .ok (.aload_n 0, 1) := by decide +kernel
theorem dX11_count_129 : decode cX11_count 129 = .ok (.getfield 57, 3) := by decide +kernel
theorem dX11_count_132 : decode cX11_count 132 = .ok (.iload_n 3, 1) := by decide +kernel
theorem dX11_count_133 : decode cX11_count 133 = .ok (.iaload, 1) := by decide +kernel
theorem dX11_count_134 : decode cX11_count 134 = .ok (.aload_n 0, 1) := by decide +kernel
theorem dX11_count_135 : decode cX11_count 135 = .ok (.getfield 54, 3) := by decide +kernel
theorem dX11_count_138 : decode cX11_count 138 = .ok (.iload_n 3, 1) := by decide +kernel
theorem dX11_count_139 : decode cX11_count 139 = .ok (.iaload, 1) := by decide +kernel
theorem dX11_count_140 : decode cX11_count 140 = .ok (.if_icmp .ne 7, 3) := by decide +kernel
theorem dX11_count_143 : decode cX11_count 143 = .ok (.iconst 1, 1) := by decide +kernel
theorem dX11_count_144 : decode cX11_count 144 = .ok (.goto 4, 3) := by decide +kernel
theorem dX11_count_147 : decode cX11_count 147 = .ok (.iconst 0, 1) := by decide +kernel
theorem dX11_count_148 : decode cX11_count 148 = .ok (.iadd, 1) := by decide +kernel
theorem dX11_count_149 : decode cX11_count 149 = .ok (.istore_n 2, 1) := by decide +kernel
theorem dX11_count_150 : decode cX11_count 150 = .ok (.iinc 3 1, 3) := by decide +kernel
theorem dX11_count_153 : decode cX11_count 153 = .ok (.goto (-45), 3) := by decide +kernel
theorem dX11_count_156 : decode cX11_count 156 = .ok (.iload_n 2, 1) := by decide +kernel
theorem dX11_count_157 : decode cX11_count 157 = .ok (.ireturn, 1) := by decide +kernel
theorem dX11_count_158 : decode cX11_count 158 = .ok (.aload_n 0, 1) := by decide +kernel
theorem dX11_count_159 : decode cX11_count 159 = .ok (.getfield 226, 3) := by decide +kernel
theorem dX11_count_162 : decode cX11_count 162 = .ok (.ireturn, 1) := by decide +kernel
theorem dX11_count_163 : decode cX11_count 163 = .ok (.aload_n 0, 1) := by decide +kernel
theorem dX11_count_164 : decode cX11_count 164 = .ok (.getfield 195, 3) := by decide +kernel
theorem dX11_count_167 : decode cX11_count 167 = .ok (.ireturn, 1) := by decide +kernel
theorem dX11_count_168 : decode cX11_count 168 = .ok (.aload_n 0, 1) := by decide +kernel
theorem dX11_count_169 : decode cX11_count 169 = .ok (.getfield 208, 3) := by decide +kernel
theorem dX11_count_172 : decode cX11_count 172 = .ok (.ireturn, 1) := by decide +kernel
theorem dX11_count_173 : decode cX11_count 173 = .ok (.iconst (-1), 1) := by decide +kernel
theorem dX11_count_174 : decode cX11_count 174 = .ok (.ireturn, 1) := by decide +kernel
theorem dJ9_max_7cf53_0 : decode cJ9_max_7cf53 0 = .ok (.iload_n 0, 1) := by decide +kernel
theorem dJ9_max_7cf53_1 : decode cJ9_max_7cf53 1 = .ok (.iload_n 1, 1) := by decide +kernel
theorem dJ9_max_7cf53_2 : decode cJ9_max_7cf53 2 = .ok (.if_icmp .lt 7, 3) := by decide +kernel
theorem dJ9_max_7cf53_5 : decode cJ9_max_7cf53 5 = .ok (.iload_n 0, 1) := by decide +kernel
theorem dJ9_max_7cf53_6 : decode cJ9_max_7cf53 6 = .ok (.goto 4, 3) := by decide +kernel
theorem dJ9_max_7cf53_9 : decode cJ9_max_7cf53 9 = .ok (.iload_n 1, 1) := by decide +kernel
theorem dJ9_max_7cf53_10 : decode cJ9_max_7cf53 10 = .ok (.ireturn, 1) := by decide +kernel
theorem dJ9_min_7cf53_0 : decode cJ9_min_7cf53 0 = .ok (.iload_n 0, 1) := by decide +kernel
theorem dJ9_min_7cf53_1 : decode cJ9_min_7cf53 1 = .ok (.iload_n 1, 1) := by decide +kernel
theorem dJ9_min_7cf53_2 : decode cJ9_min_7cf53 2 = .ok (.if_icmp .gt 7, 3) := by decide +kernel
theorem dJ9_min_7cf53_5 : decode cJ9_min_7cf53 5 = .ok (.iload_n 0, 1) := by decide +kernel
theorem dJ9_min_7cf53_6 : decode cJ9_min_7cf53 6 = .ok (.goto 4, 3) := by decide +kernel
theorem dJ9_min_7cf53_9 : decode cJ9_min_7cf53 9 = .ok (.iload_n 1, 1) := by decide +kernel
theorem dJ9_min_7cf53_10 : decode cJ9_min_7cf53 10 = .ok (.ireturn, 1) := by decide +kernel
theorem dJ9_min_f86c9_0 : decode cJ9_min_f86c9 0 = .ok (.lload_n 0, 1) := by decide +kernel
theorem dJ9_min_f86c9_1 : decode cJ9_min_f86c9 1 = .ok (.lload_n 2, 1) := by decide +kernel
theorem dJ9_min_f86c9_2 : decode cJ9_min_f86c9 2 = .ok (.lcmp, 1) := by decide +kernel
theorem dJ9_min_f86c9_3 : decode cJ9_min_f86c9 3 = .ok (.ifCond .gt 7, 3) := by decide +kernel
theorem dJ9_min_f86c9_6 : decode cJ9_min_f86c9 6 = .ok (.lload_n 0, 1) := by decide +kernel
theorem dJ9_min_f86c9_7 : decode cJ9_min_f86c9 7 = .ok (.goto 4, 3) := by decide +kernel
theorem dJ9_min_f86c9_10 : decode cJ9_min_f86c9 10 = .ok (.lload_n 2, 1) := by decide +kernel
theorem dJ9_min_f86c9_11 : decode cJ9_min_f86c9 11 = .ok (.lreturn, 1) := by decide +kernel
theorem dJ0_length_8abf5_0 : decode cJ0_length_8abf5 0 = .ok (.aload_n 0, 1) := by decide +kernel
theorem dJ0_length_8abf5_1 : decode cJ0_length_8abf5 1 = .ok (.getfield 9, 3) := by decide +kernel
theorem dJ0_length_8abf5_4 : decode cJ0_length_8abf5 4 = .ok (.arraylength, 1) := by decide +kernel
theorem dJ0_length_8abf5_5 : decode cJ0_length_8abf5 5 = .ok (.aload_n 0, 1) := by decide +kernel
theorem dJ0_length_8abf5_6 : decode cJ0_length_8abf5 6 = .ok (.invokevirtual 335, 3) := by decide +kernel
theorem dJ0_length_8abf5_9 : decode cJ0_length_8abf5 9 = .ok (.ishr, 1) := by decide +kernel
theorem dJ0_length_8abf5_10 : decode cJ0_length_8abf5 10 = .ok (.ireturn, 1) := by decide +kernel
theorem dJ0_indexOf_0f7a4_0 : decode cJ0_indexOf_0f7a4 0 = .ok (.aload_n 0, 1) := by decide +kernel
theorem dJ0_indexOf_0f7a4_1 : decode cJ0_indexOf_0f7a4 1 = .ok (.iload_n 1, 1) := by decide +kernel
theorem dJ0_indexOf_0f7a4_2 : decode cJ0_indexOf_0f7a4 2 = .ok (.iconst 0, 1) := by decide +kernel
theorem dJ0_indexOf_0f7a4_3 : decode cJ0_indexOf_0f7a4 3 = .ok (.invokevirtual 633, 3) := by decide +kernel
theorem dJ0_indexOf_0f7a4_6 : decode cJ0_indexOf_0f7a4 6 = .ok (.ireturn, 1) := by decide +kernel
theorem dJ0_indexOf_7cf53_0 : decode cJ0_indexOf_7cf53 0 = .ok (.aload_n 0, 1) := by decide +kernel
theorem dJ0_indexOf_7cf53_1 : decode cJ0_indexOf_7cf53 1 = .ok (.invokevirtual 492, 3) := by decide +kernel
theorem dJ0_indexOf_7cf53_4 : decode cJ0_indexOf_7cf53 4 = .ok (.ifCond .eq 19, 3) := by decide +kernel
theorem dJ0_indexOf_7cf53_7 : decode cJ0_indexOf_7cf53 7 = .ok (.aload_n 0, 1) := by decide +kernel
theorem dJ0_indexOf_7cf53_8 : decode cJ0_indexOf_7cf53 8 = .ok (.getfield 9, 3) := by decide +kernel
theorem dJ0_indexOf_7cf53_11 : decode cJ0_indexOf_7cf53 11 = .ok (.iload_n 1, 1) := by decide +kernel
theorem dJ0_indexOf_7cf53_12 : decode cJ0_indexOf_7cf53 12 = .ok (.iload_n 2, 1) := by decide +kernel
theorem dJ0_indexOf_7cf53_13 : decode cJ0_indexOf_7cf53 13 = .ok (.aload_n 0, 1) := by decide +kernel
theorem dJ0_indexOf_7cf53_14 : decode cJ0_indexOf_7cf53 14 = .ok (.invokevirtual 505, 3) := by decide +kernel
theorem dJ0_indexOf_7cf53_17 : decode cJ0_indexOf_7cf53 17 = .ok (.invokestatic 637, 3) := by decide +kernel
theorem dJ0_indexOf_7cf53_20 : decode cJ0_indexOf_7cf53 20 = .ok (.goto 16, 3) := by decide +kernel
theorem dJ0_indexOf_7cf53_23 : decode cJ0_indexOf_7cf53 23 = .ok (.aload_n 0, 1) := by decide +kernel
theorem dJ0_indexOf_7cf53_24 : decode cJ0_indexOf_7cf53 24 = .ok (.getfield 9, 3) := by decide +kernel
theorem dJ0_indexOf_7cf53_27 : decode cJ0_indexOf_7cf53 27 = .ok (.iload_n 1, 1) := by decide +kernel
theorem dJ0_indexOf_7cf53_28 : decode cJ0_indexOf_7cf53 28 = .ok (.iload_n 2, 1) := by decide +kernel
theorem dJ0_indexOf_7cf53_29 : decode cJ0_indexOf_7cf53 29 = .ok (.aload_n 0, 1) := by decide +kernel
theorem dJ0_indexOf_7cf53_30 : decode cJ0_indexOf_7cf53 30 = .ok (.invokevirtual 505, 3) := by decide +kernel
theorem dJ0_indexOf_7cf53_33 : decode cJ0_indexOf_7cf53 33 = .ok (.invokestatic 640, 3) := by decide +kernel
theorem dJ0_indexOf_7cf53_36 : decode cJ0_indexOf_7cf53 36 = .ok (.ireturn, 1) := by decide +kernel
theorem dJ0_coder_7d493_0 : decode cJ0_coder_7d493 0 = .ok (.getstatic 38, 3) := by decide +kernel
theorem dJ0_coder_7d493_3 : decode cJ0_coder_7d493 3 = .ok (.ifCond .eq 10, 3) := by decide +kernel
theorem dJ0_coder_7d493_6 : decode cJ0_coder_7d493 6 = .ok (.aload_n 0, 1) := by decide +kernel
theorem dJ0_coder_7d493_7 : decode cJ0_coder_7d493 7 = .ok (.getfield 15, 3) := by decide +kernel
theorem dJ0_coder_7d493_10 : decode cJ0_coder_7d493 10 = .ok (.goto 4, 3) := by decide +kernel
theorem dJ0_coder_7d493_13 : decode cJ0_coder_7d493 13 = .ok (.iconst 1, 1) := by decide +kernel
theorem dJ0_coder_7d493_14 : decode cJ0_coder_7d493 14 = .ok (.ireturn, 1) := by decide +kernel
theorem dJ0_isLatin1_aae02_0 : decode cJ0_isLatin1_aae02 0 = .ok (.getstatic 38, 3) := by decide +kernel
theorem dJ0_isLatin1_aae02_3 : decode cJ0_isLatin1_aae02 3 = .ok (.ifCond .eq 14, 3) := by decide +kernel
theorem dJ0_isLatin1_aae02_6 : decode cJ0_isLatin1_aae02 6 = .ok (.aload_n 0, 1) := by decide +kernel
theorem dJ0_isLatin1_aae02_7 : decode cJ0_isLatin1_aae02 7 = .ok (.getfield 15, 3) := by decide +kernel
theorem dJ0_isLatin1_aae02_10 : decode cJ0_isLatin1_aae02 10 = .ok (.ifCond .ne 7, 3) := by decide +kernel
theorem dJ0_isLatin1_aae02_13 : decode cJ0_isLatin1_aae02 13 = .ok (.iconst 1, 1) := by decide +kernel
theorem dJ0_isLatin1_aae02_14 : decode cJ0_isLatin1_aae02 14 = .ok (.goto 4, 3) := by decide +kernel
theorem dJ0_isLatin1_aae02_17 : decode cJ0_isLatin1_aae02 17 = .ok (.iconst 0, 1) := by decide +kernel
theorem dJ0_isLatin1_aae02_18 : decode cJ0_isLatin1_aae02 18 = .ok (.ireturn, 1) := by decide +kernel
theorem dJ0_checkBoundsBeginEnd_23922_0 : decode cJ0_checkBoundsBeginEnd_23922 0 = .ok (.iload_n 0, 1) := by decide +kernel
theorem dJ0_checkBoundsBeginEnd_23922_1 : decode cJ0_checkBoundsBeginEnd_23922 1 = .ok (.iload_n 1, 1) := by decide +kernel
theorem dJ0_checkBoundsBeginEnd_23922_2 : decode cJ0_checkBoundsBeginEnd_23922 2 = .ok (.iload_n 2, 1) := by decide +kernel
theorem dJ0_checkBoundsBeginEnd_23922_3 : decode cJ0_checkBoundsBeginEnd_23922 3 = .ok (.getstatic 1053, 3) := by decide +kernel
theorem dJ0_checkBoundsBeginEnd_23922_6 : decode cJ0_checkBoundsBeginEnd_23922 6 = .ok (.invokestatic 1062, 3) := by decide +kernel
theorem dJ0_checkBoundsBeginEnd_23922_9 : decode cJ0_checkBoundsBeginEnd_23922 9 = .ok (.pop, 1) := by decide +kernel
theorem dJ0_checkBoundsBeginEnd_23922_10 : decode cJ0_checkBoundsBeginEnd_23922 10 = .ok (.return_, 1) := by decide +kernel
theorem dJ1_canEncode_9a6ad_0 : decode cJ1_canEncode_9a6ad 0 = .ok (.iload_n 0, 1) := by decide +kernel
theorem dJ1_canEncode_9a6ad_1 : decode cJ1_canEncode_9a6ad 1 = .ok (.ifCond .lt 14, 3) := by decide +kernel
theorem dJ1_canEncode_9a6ad_4 : decode cJ1_canEncode_9a6ad 4 = .ok (.iload_n 0, 1) := by decide +kernel
theorem dJ1_canEncode_9a6ad_5 : decode cJ1_canEncode_9a6ad 5 = .ok (.sipush 255, 3) := by decide +kernel
theorem dJ1_canEncode_9a6ad_8 : decode cJ1_canEncode_9a6ad 8 = .ok (.if_icmp .gt 7, 3) := by decide +kernel
theorem dJ1_canEncode_9a6ad_11 : decode cJ1_canEncode_9a6ad 11 = .ok (.iconst 1, 1) := by decide +kernel
theorem dJ1_canEncode_9a6ad_12 : decode cJ1_canEncode_9a6ad 12 = .ok (.goto 4, 3) := by decide +kernel
theorem dJ1_canEncode_9a6ad_15 : decode cJ1_canEncode_9a6ad 15 = .ok (.iconst 0, 1) := by decide +kernel
theorem dJ1_canEncode_9a6ad_16 : decode cJ1_canEncode_9a6ad 16 = .ok (.ireturn, 1) := by decide +kernel
theorem dJ1_indexOf_4cfef_0 : decode cJ1_indexOf_4cfef 0 = .ok (.iload_n 1, 1) := by decide +kernel
theorem dJ1_indexOf_4cfef_1 : decode cJ1_indexOf_4cfef 1 = .ok (.invokestatic 88, 3) := by decide +kernel
theorem dJ1_indexOf_4cfef_4 : decode cJ1_indexOf_4cfef 4 = .ok (.ifCond .ne 5, 3) := by decide +kernel
theorem dJ1_indexOf_4cfef_7 : decode cJ1_indexOf_4cfef 7 = .ok (.iconst (-1), 1) := by decide +kernel
theorem dJ1_indexOf_4cfef_8 : decode cJ1_indexOf_4cfef 8 = .ok (.ireturn, 1) := by decide +kernel
theorem dJ1_indexOf_4cfef_9 : decode cJ1_indexOf_4cfef 9 = .ok (.iload_n 2, 1) := by decide +kernel
theorem dJ1_indexOf_4cfef_10 : decode cJ1_indexOf_4cfef 10 = .ok (.iconst 0, 1) := by decide +kernel
theorem dJ1_indexOf_4cfef_11 : decode cJ1_indexOf_4cfef 11 = .ok (.invokestatic 92, 3) := by decide +kernel
theorem dJ1_indexOf_4cfef_14 : decode cJ1_indexOf_4cfef 14 = .ok (.istore_n 2, 1) := by decide +kernel
theorem dJ1_indexOf_4cfef_15 : decode cJ1_indexOf_4cfef 15 = .ok (.iload_n 3, 1) := by decide +kernel
theorem dJ1_indexOf_4cfef_16 : decode cJ1_indexOf_4cfef 16 = .ok (.aload_n 0, 1) := by decide +kernel
theorem dJ1_indexOf_4cfef_17 : decode cJ1_indexOf_4cfef 17 = .ok (.arraylength, 1) := by decide +kernel
theorem dJ1_indexOf_4cfef_18 : decode cJ1_indexOf_4cfef 18 = .ok (.invokestatic 38, 3) := by decide +kernel
theorem dJ1_indexOf_4cfef_21 : decode cJ1_indexOf_4cfef 21 = .ok (.istore_n 3, 1) := by decide +kernel
theorem dJ1_indexOf_4cfef_22 : decode cJ1_indexOf_4cfef 22 = .ok (.iload_n 2, 1) := by decide +kernel
theorem dJ1_indexOf_4cfef_23 : decode cJ1_indexOf_4cfef 23 = .ok (.iload_n 3, 1) := by decide +kernel
theorem dJ1_indexOf_4cfef_24 : decode cJ1_indexOf_4cfef 24 = .ok (.if_icmp .lt 5, 3) := by decide +kernel
theorem dJ1_indexOf_4cfef_27 : decode cJ1_indexOf_4cfef 27 = .ok (.iconst (-1), 1) := by decide +kernel
theorem dJ1_indexOf_4cfef_28 : decode cJ1_indexOf_4cfef 28 = .ok (.ireturn, 1) := by decide +kernel
theorem dJ1_indexOf_4cfef_29 : decode cJ1_indexOf_4cfef 29 = .ok (.aload_n 0, 1) := by decide +kernel
theorem dJ1_indexOf_4cfef_30 : decode cJ1_indexOf_4cfef 30 = .ok (.iload_n 1, 1) := by decide +kernel
theorem dJ1_indexOf_4cfef_31 : decode cJ1_indexOf_4cfef 31 = .ok (.iload_n 2, 1) := by decide +kernel
theorem dJ1_indexOf_4cfef_32 : decode cJ1_indexOf_4cfef 32 = .ok (.iload_n 3, 1) := by decide +kernel
theorem dJ1_indexOf_4cfef_33 : decode cJ1_indexOf_4cfef 33 = .ok (.invokestatic 95, 3) := by decide +kernel
theorem dJ1_indexOf_4cfef_36 : decode cJ1_indexOf_4cfef 36 = .ok (.ireturn, 1) := by decide +kernel
theorem dJ1_indexOfChar_4cfef_0 : decode cJ1_indexOfChar_4cfef 0 = .ok (.iload_n 1, 1) := by decide +kernel
theorem dJ1_indexOfChar_4cfef_1 : decode cJ1_indexOfChar_4cfef 1 = .ok (.i2b, 1) := by decide +kernel
theorem dJ1_indexOfChar_4cfef_2 : decode cJ1_indexOfChar_4cfef 2 = .ok (.istore 4, 2) := by decide +kernel
theorem dJ1_indexOfChar_4cfef_4 : decode cJ1_indexOfChar_4cfef 4 = .ok (.iload_n 2, 1) := by decide +kernel
theorem dJ1_indexOfChar_4cfef_5 : decode cJ1_indexOfChar_4cfef 5 = .ok (.istore 5, 2) := by decide +kernel
theorem dJ1_indexOfChar_4cfef_7 : decode cJ1_indexOfChar_4cfef 7 = .ok (.iload 5, 2) := by decide +kernel
theorem dJ1_indexOfChar_4cfef_9 : decode cJ1_indexOfChar_4cfef 9 = .ok (.iload_n 3, 1) := by decide +kernel
theorem dJ1_indexOfChar_4cfef_10 : decode cJ1_indexOfChar_4cfef 10 = .ok (.if_icmp .ge 21, 3) := by decide +kernel
theorem dJ1_indexOfChar_4cfef_13 : decode cJ1_indexOfChar_4cfef 13 = .ok (.aload_n 0, 1) := by decide +kernel
theorem dJ1_indexOfChar_4cfef_14 : decode cJ1_indexOfChar_4cfef 14 = .ok (.iload 5, 2) := by decide +kernel
theorem dJ1_indexOfChar_4cfef_16 : decode cJ1_indexOfChar_4cfef 16 = .ok (.baload, 1) := by decide +kernel
theorem dJ1_indexOfChar_4cfef_17 : decode cJ1_indexOfChar_4cfef 17 = .ok (.iload 4, 2) := by decide +kernel
theorem dJ1_indexOfChar_4cfef_19 : decode cJ1_indexOfChar_4cfef 19 = .ok (.if_icmp .ne 6, 3) := by decide +kernel
theorem dJ1_indexOfChar_4cfef_22 : decode cJ1_indexOfChar_4cfef 22 = .ok (.iload 5, 2) := by decide +kernel
theorem dJ1_indexOfChar_4cfef_24 : decode cJ1_indexOfChar_4cfef 24 = .ok (.ireturn, 1) := by decide +kernel
theorem dJ1_indexOfChar_4cfef_25 : decode cJ1_indexOfChar_4cfef 25 = .ok (.iinc 5 1, 3) := by decide +kernel
theorem dJ1_indexOfChar_4cfef_28 : decode cJ1_indexOfChar_4cfef 28 = .ok (.goto (-21), 3) := by decide +kernel
theorem dJ1_indexOfChar_4cfef_31 : decode cJ1_indexOfChar_4cfef 31 = .ok (.iconst (-1), 1) := by decide +kernel
theorem dJ1_indexOfChar_4cfef_32 : decode cJ1_indexOfChar_4cfef 32 = .ok (.ireturn, 1) := by decide +kernel
theorem dL_law_0 : decode cL_law 0 = .ok (.new 7, 3) := by decide +kernel
theorem dL_law_3 : decode cL_law 3 = .ok (.dup, 1) := by decide +kernel
theorem dL_law_4 : decode cL_law 4 = .ok (.invokespecial 9, 3) := by decide +kernel
theorem dL_law_7 : decode cL_law 7 = .ok (.astore_n 1, 1) := by decide +kernel
theorem dL_law_8 : decode cL_law 8 = .ok (.new 10, 3) := by decide +kernel
theorem dL_law_11 : decode cL_law 11 = .ok (.dup, 1) := by decide +kernel
theorem dL_law_12 : decode cL_law 12 = .ok (.invokespecial 12, 3) := by decide +kernel
theorem dL_law_15 : decode cL_law 15 = .ok (.astore_n 2, 1) := by decide +kernel
theorem dL_law_16 : decode cL_law 16 = .ok (.iconst 0, 1) := by decide +kernel
theorem dL_law_17 : decode cL_law 17 = .ok (.istore_n 3, 1) := by decide +kernel
theorem dL_law_18 : decode cL_law 18 = .ok (.iload_n 3, 1) := by decide +kernel
theorem dL_law_19 : decode cL_law 19 = .ok (.aload_n 0, 1) := by decide +kernel
theorem dL_law_20 : decode cL_law 20 = .ok (.arraylength, 1) := by decide +kernel
theorem dL_law_21 : decode cL_law 21 = .ok (.bipush 6, 2) := by decide +kernel
theorem dL_law_23 : decode cL_law 23 = .ok (.isub, 1) := by decide +kernel
theorem dL_law_24 : decode cL_law 24 = .ok (.if_icmp .gt 544, 3) := by decide +kernel
theorem dL_law_27 : decode cL_law 27 = .ok (.aload_n 0, 1) := by decide +kernel
theorem dL_law_28 : decode cL_law 28 = .ok (.iload_n 3, 1) := by decide +kernel
theorem dL_law_29 : decode cL_law 29 = .ok (.iaload, 1) := by decide +kernel
theorem dL_law_30 : decode cL_law 30 = .ok (.bipush 15, 2) := by decide +kernel
theorem dL_law_32 : decode cL_law 32 = .ok (.iand, 1) := by decide +kernel
theorem dL_law_33 : decode cL_law 33 = .ok (.tableswitch 529 0 15 #[79, 142, 165, 198, 231, 254, 287, 310, 333, 356, 379, 412, 436, 459, 472, 506], 79) := by decide +kernel
theorem dL_law_112 : decode cL_law 112 = .ok (.aload_n 1, 1) := by decide +kernel
theorem dL_law_113 : decode cL_law 113 = .ok (.aload_n 0, 1) := by decide +kernel
theorem dL_law_114 : decode cL_law 114 = .ok (.iload_n 3, 1) := by decide +kernel
theorem dL_law_115 : decode cL_law 115 = .ok (.iconst 1, 1) := by decide +kernel
theorem dL_law_116 : decode cL_law 116 = .ok (.iadd, 1) := by decide +kernel
theorem dL_law_117 : decode cL_law 117 = .ok (.iaload, 1) := by decide +kernel
theorem dL_law_118 : decode cL_law 118 = .ok (.aload_n 0, 1) := by decide +kernel
theorem dL_law_119 : decode cL_law 119 = .ok (.iload_n 3, 1) := by decide +kernel
theorem dL_law_120 : decode cL_law 120 = .ok (.iconst 2, 1) := by decide +kernel
theorem dL_law_121 : decode cL_law 121 = .ok (.iadd, 1) := by decide +kernel
theorem dL_law_122 : decode cL_law 122 = .ok (.iaload, 1) := by decide +kernel
theorem dL_law_123 : decode cL_law 123 = .ok (.aload_n 0, 1) := by decide +kernel
theorem dL_law_124 : decode cL_law 124 = .ok (.iload_n 3, 1) := by decide +kernel
theorem dL_law_125 : decode cL_law 125 = .ok (.iconst 3, 1) := by decide +kernel
theorem dL_law_126 : decode cL_law 126 = .ok (.iadd, 1) := by decide +kernel
theorem dL_law_127 : decode cL_law 127 = .ok (.iaload, 1) := by decide +kernel
theorem dL_law_128 : decode cL_law 128 = .ok (.aload_n 0, 1) := by decide +kernel
theorem dL_law_129 : decode cL_law 129 = .ok (.iload_n 3, 1) := by decide +kernel
theorem dL_law_130 : decode cL_law 130 = .ok (.iconst 4, 1) := by decide +kernel
theorem dL_law_131 : decode cL_law 131 = .ok (.iadd, 1) := by decide +kernel
theorem dL_law_132 : decode cL_law 132 = .ok (.iaload, 1) := by decide +kernel
theorem dL_law_133 : decode cL_law 133 = .ok (.aload_n 0, 1) := by decide +kernel
theorem dL_law_134 : decode cL_law 134 = .ok (.iload_n 3, 1) := by decide +kernel
theorem dL_law_135 : decode cL_law 135 = .ok (.iconst 5, 1) := by decide +kernel
theorem dL_law_136 : decode cL_law 136 = .ok (.iadd, 1) := by decide +kernel
theorem dL_law_137 : decode cL_law 137 = .ok (.iaload, 1) := by decide +kernel
theorem dL_law_138 : decode cL_law 138 = .ok (.invokevirtual 13, 3) := by decide +kernel
theorem dL_law_141 : decode cL_law 141 = .ok (.aload_n 2, 1) := by decide +kernel
theorem dL_law_142 : decode cL_law 142 = .ok (.aload_n 0, 1) := by decide +kernel
theorem dL_law_143 : decode cL_law 143 = .ok (.iload_n 3, 1) := by decide +kernel
theorem dL_law_144 : decode cL_law 144 = .ok (.iconst 1, 1) := by decide +kernel
theorem dL_law_145 : decode cL_law 145 = .ok (.iadd, 1) := by decide +kernel
theorem dL_law_146 : decode cL_law 146 = .ok (.iaload, 1) := by decide +kernel
theorem dL_law_147 : decode cL_law 147 = .ok (.aload_n 0, 1) := by decide +kernel
theorem dL_law_148 : decode cL_law 148 = .ok (.iload_n 3, 1) := by decide +kernel
theorem dL_law_149 : decode cL_law 149 = .ok (.iconst 2, 1) := by decide +kernel
theorem dL_law_150 : decode cL_law 150 = .ok (.iadd, 1) := by decide +kernel
theorem dL_law_151 : decode cL_law 151 = .ok (.iaload, 1) := by decide +kernel
theorem dL_law_152 : decode cL_law 152 = .ok (.aload_n 0, 1) := by decide +kernel
theorem dL_law_153 : decode cL_law 153 = .ok (.iload_n 3, 1) := by decide +kernel
theorem dL_law_154 : decode cL_law 154 = .ok (.iconst 3, 1) := by decide +kernel
theorem dL_law_155 : decode cL_law 155 = .ok (.iadd, 1) := by decide +kernel
theorem dL_law_156 : decode cL_law 156 = .ok (.iaload, 1) := by decide +kernel
theorem dL_law_157 : decode cL_law 157 = .ok (.aload_n 0, 1) := by decide +kernel
theorem dL_law_158 : decode cL_law 158 = .ok (.iload_n 3, 1) := by decide +kernel
theorem dL_law_159 : decode cL_law 159 = .ok (.iconst 4, 1) := by decide +kernel
theorem dL_law_160 : decode cL_law 160 = .ok (.iadd, 1) := by decide +kernel
theorem dL_law_161 : decode cL_law 161 = .ok (.iaload, 1) := by decide +kernel
theorem dL_law_162 : decode cL_law 162 = .ok (.aload_n 0, 1) := by decide +kernel
theorem dL_law_163 : decode cL_law 163 = .ok (.iload_n 3, 1) := by decide +kernel
theorem dL_law_164 : decode cL_law 164 = .ok (.iconst 5, 1) := by decide +kernel
theorem dL_law_165 : decode cL_law 165 = .ok (.iadd, 1) := by decide +kernel
theorem dL_law_166 : decode cL_law 166 = .ok (.iaload, 1) := by decide +kernel
theorem dL_law_167 : decode cL_law 167 = .ok (.invokevirtual 17, 3) := by decide +kernel
theorem dL_law_170 : decode cL_law 170 = .ok (.if_icmp .eq 392, 3) := by decide +kernel
theorem dL_law_173 : decode cL_law 173 = .ok (.iconst 0, 1) := by decide +kernel
theorem dL_law_174 : decode cL_law 174 = .ok (.ireturn, 1) := by decide +kernel
theorem dL_law_175 : decode cL_law 175 = .ok (.aload_n 1, 1) := by decide +kernel
theorem dL_law_176 : decode cL_law 176 = .ok (.aload_n 0, 1) := by decide +kernel
theorem dL_law_177 : decode cL_law 177 = .ok (.iload_n 3, 1) := by decide +kernel
theorem dL_law_178 : decode cL_law 178 = .ok (.iconst 1, 1) := by decide +kernel
theorem dL_law_179 : decode cL_law 179 = .ok (.iadd, 1) := by decide +kernel
theorem dL_law_180 : decode cL_law 180 = .ok (.iaload, 1) := by decide +kernel
theorem dL_law_181 : decode cL_law 181 = .ok (.invokevirtual 18, 3) := by decide +kernel
theorem dL_law_184 : decode cL_law 184 = .ok (.aload_n 2, 1) := by decide +kernel
theorem dL_law_185 : decode cL_law 185 = .ok (.aload_n 0, 1) := by decide +kernel
theorem dL_law_186 : decode cL_law 186 = .ok (.iload_n 3, 1) := by decide +kernel
theorem dL_law_187 : decode cL_law 187 = .ok (.iconst 1, 1) := by decide +kernel
theorem dL_law_188 : decode cL_law 188 = .ok (.iadd, 1) := by decide +kernel
theorem dL_law_189 : decode cL_law 189 = .ok (.iaload, 1) := by decide +kernel
theorem dL_law_190 : decode cL_law 190 = .ok (.invokevirtual 22, 3) := by decide +kernel
theorem dL_law_193 : decode cL_law 193 = .ok (.if_icmp .eq 369, 3) := by decide +kernel
theorem dL_law_196 : decode cL_law 196 = .ok (.iconst 0, 1) := by decide +kernel
theorem dL_law_197 : decode cL_law 197 = .ok (.ireturn, 1) := by decide +kernel
theorem dL_law_198 : decode cL_law 198 = .ok (.aload_n 1, 1) := by decide +kernel
theorem dL_law_199 : decode cL_law 199 = .ok (.aload_n 0, 1) := by decide +kernel
theorem dL_law_200 : decode cL_law 200 = .ok (.iload_n 3, 1) := by decide +kernel
theorem dL_law_201 : decode cL_law 201 = .ok (.iconst 1, 1) := by decide +kernel
theorem dL_law_202 : decode cL_law 202 = .ok (.iadd, 1) := by decide +kernel
theorem dL_law_203 : decode cL_law 203 = .ok (.iaload, 1) := by decide +kernel
theorem dL_law_204 : decode cL_law 204 = .ok (.aload_n 0, 1) := by decide +kernel
theorem dL_law_205 : decode cL_law 205 = .ok (.iload_n 3, 1) := by decide +kernel
theorem dL_law_206 : decode cL_law 206 = .ok (.iconst 2, 1) := by decide +kernel
theorem dL_law_207 : decode cL_law 207 = .ok (.iadd, 1) := by decide +kernel
theorem dL_law_208 : decode cL_law 208 = .ok (.iaload, 1) := by decide +kernel
theorem dL_law_209 : decode cL_law 209 = .ok (.invokevirtual 23, 3) := by decide +kernel
theorem dL_law_212 : decode cL_law 212 = .ok (.aload_n 2, 1) := by decide +kernel
theorem dL_law_213 : decode cL_law 213 = .ok (.aload_n 0, 1) := by decide +kernel
theorem dL_law_214 : decode cL_law 214 = .ok (.iload_n 3, 1) := by decide +kernel
theorem dL_law_215 : decode cL_law 215 = .ok (.iconst 1, 1) := by decide +kernel
theorem dL_law_216 : decode cL_law 216 = .ok (.iadd, 1) := by decide +kernel
theorem dL_law_217 : decode cL_law 217 = .ok (.iaload, 1) := by decide +kernel
theorem dL_law_218 : decode cL_law 218 = .ok (.aload_n 0, 1) := by decide +kernel
theorem dL_law_219 : decode cL_law 219 = .ok (.iload_n 3, 1) := by decide +kernel
theorem dL_law_220 : decode cL_law 220 = .ok (.iconst 2, 1) := by decide +kernel
theorem dL_law_221 : decode cL_law 221 = .ok (.iadd, 1) := by decide +kernel
theorem dL_law_222 : decode cL_law 222 = .ok (.iaload, 1) := by decide +kernel
theorem dL_law_223 : decode cL_law 223 = .ok (.invokevirtual 27, 3) := by decide +kernel
theorem dL_law_226 : decode cL_law 226 = .ok (.if_icmp .eq 336, 3) := by decide +kernel
theorem dL_law_229 : decode cL_law 229 = .ok (.iconst 0, 1) := by decide +kernel
theorem dL_law_230 : decode cL_law 230 = .ok (.ireturn, 1) := by decide +kernel
theorem dL_law_231 : decode cL_law 231 = .ok (.aload_n 1, 1) := by decide +kernel
theorem dL_law_232 : decode cL_law 232 = .ok (.aload_n 0, 1) := by decide +kernel
theorem dL_law_233 : decode cL_law 233 = .ok (.iload_n 3, 1) := by decide +kernel
theorem dL_law_234 : decode cL_law 234 = .ok (.iconst 1, 1) := by decide +kernel
theorem dL_law_235 : decode cL_law 235 = .ok (.iadd, 1) := by decide +kernel
theorem dL_law_236 : decode cL_law 236 = .ok (.iaload, 1) := by decide +kernel
theorem dL_law_237 : decode cL_law 237 = .ok (.aload_n 0, 1) := by decide +kernel
theorem dL_law_238 : decode cL_law 238 = .ok (.iload_n 3, 1) := by decide +kernel
theorem dL_law_239 : decode cL_law 239 = .ok (.iconst 2, 1) := by decide +kernel
theorem dL_law_240 : decode cL_law 240 = .ok (.iadd, 1) := by decide +kernel
theorem dL_law_241 : decode cL_law 241 = .ok (.iaload, 1) := by decide +kernel
theorem dL_law_242 : decode cL_law 242 = .ok (.invokevirtual 28, 3) := by decide +kernel
theorem dL_law_245 : decode cL_law 245 = .ok (.aload_n 2, 1) := by decide +kernel
theorem dL_law_246 : decode cL_law 246 = .ok (.aload_n 0, 1) := by decide +kernel
theorem dL_law_247 : decode cL_law 247 = .ok (.iload_n 3, 1) := by decide +kernel
theorem dL_law_248 : decode cL_law 248 = .ok (.iconst 1, 1) := by decide +kernel
theorem dL_law_249 : decode cL_law 249 = .ok (.iadd, 1) := by decide +kernel
theorem dL_law_250 : decode cL_law 250 = .ok (.iaload, 1) := by decide +kernel
theorem dL_law_251 : decode cL_law 251 = .ok (.aload_n 0, 1) := by decide +kernel
theorem dL_law_252 : decode cL_law 252 = .ok (.iload_n 3, 1) := by decide +kernel
theorem dL_law_253 : decode cL_law 253 = .ok (.iconst 2, 1) := by decide +kernel
theorem dL_law_254 : decode cL_law 254 = .ok (.iadd, 1) := by decide +kernel
theorem dL_law_255 : decode cL_law 255 = .ok (.iaload, 1) := by decide +kernel
theorem dL_law_256 : decode cL_law 256 = .ok (.invokevirtual 32, 3) := by decide +kernel
theorem dL_law_259 : decode cL_law 259 = .ok (.if_icmp .eq 303, 3) := by decide +kernel
theorem dL_law_262 : decode cL_law 262 = .ok (.iconst 0, 1) := by decide +kernel
theorem dL_law_263 : decode cL_law 263 = .ok (.ireturn, 1) := by decide +kernel
theorem dL_law_264 : decode cL_law 264 = .ok (.aload_n 1, 1) := by decide +kernel
theorem dL_law_265 : decode cL_law 265 = .ok (.aload_n 0, 1) := by decide +kernel
theorem dL_law_266 : decode cL_law 266 = .ok (.iload_n 3, 1) := by decide +kernel
theorem dL_law_267 : decode cL_law 267 = .ok (.iconst 1, 1) := by decide +kernel
theorem dL_law_268 : decode cL_law 268 = .ok (.iadd, 1) := by decide +kernel
theorem dL_law_269 : decode cL_law 269 = .ok (.iaload, 1) := by decide +kernel
theorem dL_law_270 : decode cL_law 270 = .ok (.invokevirtual 33, 3) := by decide +kernel
theorem dL_law_273 : decode cL_law 273 = .ok (.aload_n 2, 1) := by decide +kernel
theorem dL_law_274 : decode cL_law 274 = .ok (.aload_n 0, 1) := by decide +kernel
theorem dL_law_275 : decode cL_law 275 = .ok (.iload_n 3, 1) := by decide +kernel
theorem dL_law_276 : decode cL_law 276 = .ok (.iconst 1, 1) := by decide +kernel
theorem dL_law_277 : decode cL_law 277 = .ok (.iadd, 1) := by decide +kernel
theorem dL_law_278 : decode cL_law 278 = .ok (.iaload, 1) := by decide +kernel
theorem dL_law_279 : decode cL_law 279 = .ok (.invokevirtual 37, 3) := by decide +kernel
theorem dL_law_282 : decode cL_law 282 = .ok (.if_icmp .eq 280, 3) := by decide +kernel
theorem dL_law_285 : decode cL_law 285 = .ok (.iconst 0, 1) := by decide +kernel
theorem dL_law_286 : decode cL_law 286 = .ok (.ireturn, 1) := by decide +kernel
theorem dL_law_287 : decode cL_law 287 = .ok (.aload_n 1, 1) := by decide +kernel
theorem dL_law_288 : decode cL_law 288 = .ok (.aload_n 0, 1) := by decide +kernel
theorem dL_law_289 : decode cL_law 289 = .ok (.iload_n 3, 1) := by decide +kernel
theorem dL_law_290 : decode cL_law 290 = .ok (.iconst 1, 1) := by decide +kernel
theorem dL_law_291 : decode cL_law 291 = .ok (.iadd, 1) := by decide +kernel
theorem dL_law_292 : decode cL_law 292 = .ok (.iaload, 1) := by decide +kernel
theorem dL_law_293 : decode cL_law 293 = .ok (.aload_n 0, 1) := by decide +kernel
theorem dL_law_294 : decode cL_law 294 = .ok (.iload_n 3, 1) := by decide +kernel
theorem dL_law_295 : decode cL_law 295 = .ok (.iconst 2, 1) := by decide +kernel
theorem dL_law_296 : decode cL_law 296 = .ok (.iadd, 1) := by decide +kernel
theorem dL_law_297 : decode cL_law 297 = .ok (.iaload, 1) := by decide +kernel
theorem dL_law_298 : decode cL_law 298 = .ok (.invokevirtual 38, 3) := by decide +kernel
theorem dL_law_301 : decode cL_law 301 = .ok (.aload_n 2, 1) := by decide +kernel
theorem dL_law_302 : decode cL_law 302 = .ok (.aload_n 0, 1) := by decide +kernel
theorem dL_law_303 : decode cL_law 303 = .ok (.iload_n 3, 1) := by decide +kernel
theorem dL_law_304 : decode cL_law 304 = .ok (.iconst 1, 1) := by decide +kernel
theorem dL_law_305 : decode cL_law 305 = .ok (.iadd, 1) := by decide +kernel
theorem dL_law_306 : decode cL_law 306 = .ok (.iaload, 1) := by decide +kernel
theorem dL_law_307 : decode cL_law 307 = .ok (.aload_n 0, 1) := by decide +kernel
theorem dL_law_308 : decode cL_law 308 = .ok (.iload_n 3, 1) := by decide +kernel
theorem dL_law_309 : decode cL_law 309 = .ok (.iconst 2, 1) := by decide +kernel
theorem dL_law_310 : decode cL_law 310 = .ok (.iadd, 1) := by decide +kernel
theorem dL_law_311 : decode cL_law 311 = .ok (.iaload, 1) := by decide +kernel
theorem dL_law_312 : decode cL_law 312 = .ok (.invokevirtual 41, 3) := by decide +kernel
theorem dL_law_315 : decode cL_law 315 = .ok (.if_icmp .eq 247, 3) := by decide +kernel
theorem dL_law_318 : decode cL_law 318 = .ok (.iconst 0, 1) := by decide +kernel
theorem dL_law_319 : decode cL_law 319 = .ok (.ireturn, 1) := by decide +kernel
theorem dL_law_320 : decode cL_law 320 = .ok (.aload_n 1, 1) := by decide +kernel
theorem dL_law_321 : decode cL_law 321 = .ok (.aload_n 0, 1) := by decide +kernel
theorem dL_law_322 : decode cL_law 322 = .ok (.iload_n 3, 1) := by decide +kernel
theorem dL_law_323 : decode cL_law 323 = .ok (.iconst 1, 1) := by decide +kernel
theorem dL_law_324 : decode cL_law 324 = .ok (.iadd, 1) := by decide +kernel
theorem dL_law_325 : decode cL_law 325 = .ok (.iaload, 1) := by decide +kernel
theorem dL_law_326 : decode cL_law 326 = .ok (.invokevirtual 42, 3) := by decide +kernel
theorem dL_law_329 : decode cL_law 329 = .ok (.aload_n 2, 1) := by decide +kernel
theorem dL_law_330 : decode cL_law 330 = .ok (.aload_n 0, 1) := by decide +kernel
theorem dL_law_331 : decode cL_law 331 = .ok (.iload_n 3, 1) := by decide +kernel
theorem dL_law_332 : decode cL_law 332 = .ok (.iconst 1, 1) := by decide +kernel
theorem dL_law_333 : decode cL_law 333 = .ok (.iadd, 1) := by decide +kernel
theorem dL_law_334 : decode cL_law 334 = .ok (.iaload, 1) := by decide +kernel
theorem dL_law_335 : decode cL_law 335 = .ok (.invokevirtual 45, 3) := by decide +kernel
theorem dL_law_338 : decode cL_law 338 = .ok (.if_icmp .eq 224, 3) := by decide +kernel
theorem dL_law_341 : decode cL_law 341 = .ok (.iconst 0, 1) := by decide +kernel
theorem dL_law_342 : decode cL_law 342 = .ok (.ireturn, 1) := by decide +kernel
theorem dL_law_343 : decode cL_law 343 = .ok (.aload_n 1, 1) := by decide +kernel
theorem dL_law_344 : decode cL_law 344 = .ok (.aload_n 0, 1) := by decide +kernel
theorem dL_law_345 : decode cL_law 345 = .ok (.iload_n 3, 1) := by decide +kernel
theorem dL_law_346 : decode cL_law 346 = .ok (.iconst 1, 1) := by decide +kernel
theorem dL_law_347 : decode cL_law 347 = .ok (.iadd, 1) := by decide +kernel
theorem dL_law_348 : decode cL_law 348 = .ok (.iaload, 1) := by decide +kernel
theorem dL_law_349 : decode cL_law 349 = .ok (.invokevirtual 46, 3) := by decide +kernel
theorem dL_law_352 : decode cL_law 352 = .ok (.aload_n 2, 1) := by decide +kernel
theorem dL_law_353 : decode cL_law 353 = .ok (.aload_n 0, 1) := by decide +kernel
theorem dL_law_354 : decode cL_law 354 = .ok (.iload_n 3, 1) := by decide +kernel
theorem dL_law_355 : decode cL_law 355 = .ok (.iconst 1, 1) := by decide +kernel
theorem dL_law_356 : decode cL_law 356 = .ok (.iadd, 1) := by decide +kernel
theorem dL_law_357 : decode cL_law 357 = .ok (.iaload, 1) := by decide +kernel
theorem dL_law_358 : decode cL_law 358 = .ok (.invokevirtual 49, 3) := by decide +kernel
theorem dL_law_361 : decode cL_law 361 = .ok (.if_icmp .eq 201, 3) := by decide +kernel
theorem dL_law_364 : decode cL_law 364 = .ok (.iconst 0, 1) := by decide +kernel
theorem dL_law_365 : decode cL_law 365 = .ok (.ireturn, 1) := by decide +kernel
theorem dL_law_366 : decode cL_law 366 = .ok (.aload_n 1, 1) := by decide +kernel
theorem dL_law_367 : decode cL_law 367 = .ok (.aload_n 0, 1) := by decide +kernel
theorem dL_law_368 : decode cL_law 368 = .ok (.iload_n 3, 1) := by decide +kernel
theorem dL_law_369 : decode cL_law 369 = .ok (.iconst 1, 1) := by decide +kernel
theorem dL_law_370 : decode cL_law 370 = .ok (.iadd, 1) := by decide +kernel
theorem dL_law_371 : decode cL_law 371 = .ok (.iaload, 1) := by decide +kernel
theorem dL_law_372 : decode cL_law 372 = .ok (.invokevirtual 50, 3) := by decide +kernel
theorem dL_law_375 : decode cL_law 375 = .ok (.aload_n 2, 1) := by decide +kernel
theorem dL_law_376 : decode cL_law 376 = .ok (.aload_n 0, 1) := by decide +kernel
theorem dL_law_377 : decode cL_law 377 = .ok (.iload_n 3, 1) := by decide +kernel
theorem dL_law_378 : decode cL_law 378 = .ok (.iconst 1, 1) := by decide +kernel
theorem dL_law_379 : decode cL_law 379 = .ok (.iadd, 1) := by decide +kernel
theorem dL_law_380 : decode cL_law 380 = .ok (.iaload, 1) := by decide +kernel
theorem dL_law_381 : decode cL_law 381 = .ok (.invokevirtual 53, 3) := by decide +kernel
theorem dL_law_384 : decode cL_law 384 = .ok (.if_icmp .eq 178, 3) := by decide +kernel
theorem dL_law_387 : decode cL_law 387 = .ok (.iconst 0, 1) := by decide +kernel
theorem dL_law_388 : decode cL_law 388 = .ok (.ireturn, 1) := by decide +kernel
theorem dL_law_389 : decode cL_law 389 = .ok (.aload_n 1, 1) := by decide +kernel
theorem dL_law_390 : decode cL_law 390 = .ok (.aload_n 0, 1) := by decide +kernel
theorem dL_law_391 : decode cL_law 391 = .ok (.iload_n 3, 1) := by decide +kernel
theorem dL_law_392 : decode cL_law 392 = .ok (.iconst 1, 1) := by decide +kernel
theorem dL_law_393 : decode cL_law 393 = .ok (.iadd, 1) := by decide +kernel
theorem dL_law_394 : decode cL_law 394 = .ok (.iaload, 1) := by decide +kernel
theorem dL_law_395 : decode cL_law 395 = .ok (.invokevirtual 54, 3) := by decide +kernel
theorem dL_law_398 : decode cL_law 398 = .ok (.aload_n 2, 1) := by decide +kernel
theorem dL_law_399 : decode cL_law 399 = .ok (.aload_n 0, 1) := by decide +kernel
theorem dL_law_400 : decode cL_law 400 = .ok (.iload_n 3, 1) := by decide +kernel
theorem dL_law_401 : decode cL_law 401 = .ok (.iconst 1, 1) := by decide +kernel
theorem dL_law_402 : decode cL_law 402 = .ok (.iadd, 1) := by decide +kernel
theorem dL_law_403 : decode cL_law 403 = .ok (.iaload, 1) := by decide +kernel
theorem dL_law_404 : decode cL_law 404 = .ok (.invokevirtual 57, 3) := by decide +kernel
theorem dL_law_407 : decode cL_law 407 = .ok (.if_icmp .eq 155, 3) := by decide +kernel
theorem dL_law_410 : decode cL_law 410 = .ok (.iconst 0, 1) := by decide +kernel
theorem dL_law_411 : decode cL_law 411 = .ok (.ireturn, 1) := by decide +kernel
theorem dL_law_412 : decode cL_law 412 = .ok (.aload_n 1, 1) := by decide +kernel
theorem dL_law_413 : decode cL_law 413 = .ok (.aload_n 0, 1) := by decide +kernel
theorem dL_law_414 : decode cL_law 414 = .ok (.iload_n 3, 1) := by decide +kernel
theorem dL_law_415 : decode cL_law 415 = .ok (.iconst 1, 1) := by decide +kernel
theorem dL_law_416 : decode cL_law 416 = .ok (.iadd, 1) := by decide +kernel
theorem dL_law_417 : decode cL_law 417 = .ok (.iaload, 1) := by decide +kernel
theorem dL_law_418 : decode cL_law 418 = .ok (.aload_n 0, 1) := by decide +kernel
theorem dL_law_419 : decode cL_law 419 = .ok (.iload_n 3, 1) := by decide +kernel
theorem dL_law_420 : decode cL_law 420 = .ok (.iconst 2, 1) := by decide +kernel
theorem dL_law_421 : decode cL_law 421 = .ok (.iadd, 1) := by decide +kernel
theorem dL_law_422 : decode cL_law 422 = .ok (.iaload, 1) := by decide +kernel
theorem dL_law_423 : decode cL_law 423 = .ok (.invokevirtual 58, 3) := by decide +kernel
theorem dL_law_426 : decode cL_law 426 = .ok (.aload_n 2, 1) := by decide +kernel
theorem dL_law_427 : decode cL_law 427 = .ok (.aload_n 0, 1) := by decide +kernel
theorem dL_law_428 : decode cL_law 428 = .ok (.iload_n 3, 1) := by decide +kernel
theorem dL_law_429 : decode cL_law 429 = .ok (.iconst 1, 1) := by decide +kernel
theorem dL_law_430 : decode cL_law 430 = .ok (.iadd, 1) := by decide +kernel
theorem dL_law_431 : decode cL_law 431 = .ok (.iaload, 1) := by decide +kernel
theorem dL_law_432 : decode cL_law 432 = .ok (.aload_n 0, 1) := by decide +kernel
theorem dL_law_433 : decode cL_law 433 = .ok (.iload_n 3, 1) := by decide +kernel
theorem dL_law_434 : decode cL_law 434 = .ok (.iconst 2, 1) := by decide +kernel
theorem dL_law_435 : decode cL_law 435 = .ok (.iadd, 1) := by decide +kernel
theorem dL_law_436 : decode cL_law 436 = .ok (.iaload, 1) := by decide +kernel
theorem dL_law_437 : decode cL_law 437 = .ok (.invokevirtual 61, 3) := by decide +kernel
theorem dL_law_440 : decode cL_law 440 = .ok (.if_icmp .eq 122, 3) := by decide +kernel
theorem dL_law_443 : decode cL_law 443 = .ok (.iconst 0, 1) := by decide +kernel
theorem dL_law_444 : decode cL_law 444 = .ok (.ireturn, 1) := by decide +kernel
theorem dL_law_445 : decode cL_law 445 = .ok (.aload_n 1, 1) := by decide +kernel
theorem dL_law_446 : decode cL_law 446 = .ok (.aload_n 0, 1) := by decide +kernel
theorem dL_law_447 : decode cL_law 447 = .ok (.iload_n 3, 1) := by decide +kernel
theorem dL_law_448 : decode cL_law 448 = .ok (.iconst 1, 1) := by decide +kernel
theorem dL_law_449 : decode cL_law 449 = .ok (.iadd, 1) := by decide +kernel
theorem dL_law_450 : decode cL_law 450 = .ok (.iaload, 1) := by decide +kernel
theorem dL_law_451 : decode cL_law 451 = .ok (.invokevirtual 62, 3) := by decide +kernel
theorem dL_law_454 : decode cL_law 454 = .ok (.aload_n 2, 1) := by decide +kernel
theorem dL_law_455 : decode cL_law 455 = .ok (.aload_n 0, 1) := by decide +kernel
theorem dL_law_456 : decode cL_law 456 = .ok (.iload_n 3, 1) := by decide +kernel
theorem dL_law_457 : decode cL_law 457 = .ok (.iconst 1, 1) := by decide +kernel
theorem dL_law_458 : decode cL_law 458 = .ok (.iadd, 1) := by decide +kernel
theorem dL_law_459 : decode cL_law 459 = .ok (.iaload, 1) := by decide +kernel
theorem dL_law_460 : decode cL_law 460 = .ok (.invokevirtual 66, 3) := by decide +kernel
theorem dL_law_463 : decode cL_law 463 = .ok (.lcmp, 1) := by decide +kernel
theorem dL_law_464 : decode cL_law 464 = .ok (.ifCond .eq 98, 3) := by decide +kernel
theorem dL_law_467 : decode cL_law 467 = .ok (.iconst 0, 1) := by decide +kernel
theorem dL_law_468 : decode cL_law 468 = .ok (.ireturn, 1) := by decide +kernel
theorem dL_law_469 : decode cL_law 469 = .ok (.aload_n 1, 1) := by decide +kernel
theorem dL_law_470 : decode cL_law 470 = .ok (.aload_n 0, 1) := by decide +kernel
theorem dL_law_471 : decode cL_law 471 = .ok (.iload_n 3, 1) := by decide +kernel
theorem dL_law_472 : decode cL_law 472 = .ok (.iconst 1, 1) := by decide +kernel
theorem dL_law_473 : decode cL_law 473 = .ok (.iadd, 1) := by decide +kernel
theorem dL_law_474 : decode cL_law 474 = .ok (.iaload, 1) := by decide +kernel
theorem dL_law_475 : decode cL_law 475 = .ok (.invokevirtual 67, 3) := by decide +kernel
theorem dL_law_478 : decode cL_law 478 = .ok (.aload_n 2, 1) := by decide +kernel
theorem dL_law_479 : decode cL_law 479 = .ok (.aload_n 0, 1) := by decide +kernel
theorem dL_law_480 : decode cL_law 480 = .ok (.iload_n 3, 1) := by decide +kernel
theorem dL_law_481 : decode cL_law 481 = .ok (.iconst 1, 1) := by decide +kernel
theorem dL_law_482 : decode cL_law 482 = .ok (.iadd, 1) := by decide +kernel
theorem dL_law_483 : decode cL_law 483 = .ok (.iaload, 1) := by decide +kernel
theorem dL_law_484 : decode cL_law 484 = .ok (.invokevirtual 70, 3) := by decide +kernel
theorem dL_law_487 : decode cL_law 487 = .ok (.if_icmp .eq 75, 3) := by decide +kernel
theorem dL_law_490 : decode cL_law 490 = .ok (.iconst 0, 1) := by decide +kernel
theorem dL_law_491 : decode cL_law 491 = .ok (.ireturn, 1) := by decide +kernel
theorem dL_law_492 : decode cL_law 492 = .ok (.aload_n 1, 1) := by decide +kernel
theorem dL_law_493 : decode cL_law 493 = .ok (.invokevirtual 71, 3) := by decide +kernel
theorem dL_law_496 : decode cL_law 496 = .ok (.aload_n 2, 1) := by decide +kernel
theorem dL_law_497 : decode cL_law 497 = .ok (.invokevirtual 75, 3) := by decide +kernel
theorem dL_law_500 : decode cL_law 500 = .ok (.if_icmp .eq 62, 3) := by decide +kernel
theorem dL_law_503 : decode cL_law 503 = .ok (.iconst 0, 1) := by decide +kernel
theorem dL_law_504 : decode cL_law 504 = .ok (.ireturn, 1) := by decide +kernel
theorem dL_law_505 : decode cL_law 505 = .ok (.aload_n 1, 1) := by decide +kernel
theorem dL_law_506 : decode cL_law 506 = .ok (.aload_n 0, 1) := by decide +kernel
theorem dL_law_507 : decode cL_law 507 = .ok (.iload_n 3, 1) := by decide +kernel
theorem dL_law_508 : decode cL_law 508 = .ok (.iconst 1, 1) := by decide +kernel
theorem dL_law_509 : decode cL_law 509 = .ok (.iadd, 1) := by decide +kernel
theorem dL_law_510 : decode cL_law 510 = .ok (.iaload, 1) := by decide +kernel
theorem dL_law_511 : decode cL_law 511 = .ok (.aload_n 0, 1) := by decide +kernel
theorem dL_law_512 : decode cL_law 512 = .ok (.iload_n 3, 1) := by decide +kernel
theorem dL_law_513 : decode cL_law 513 = .ok (.iconst 2, 1) := by decide +kernel
theorem dL_law_514 : decode cL_law 514 = .ok (.iadd, 1) := by decide +kernel
theorem dL_law_515 : decode cL_law 515 = .ok (.iaload, 1) := by decide +kernel
theorem dL_law_516 : decode cL_law 516 = .ok (.invokevirtual 76, 3) := by decide +kernel
theorem dL_law_519 : decode cL_law 519 = .ok (.aload_n 2, 1) := by decide +kernel
theorem dL_law_520 : decode cL_law 520 = .ok (.aload_n 0, 1) := by decide +kernel
theorem dL_law_521 : decode cL_law 521 = .ok (.iload_n 3, 1) := by decide +kernel
theorem dL_law_522 : decode cL_law 522 = .ok (.iconst 1, 1) := by decide +kernel
theorem dL_law_523 : decode cL_law 523 = .ok (.iadd, 1) := by decide +kernel
theorem dL_law_524 : decode cL_law 524 = .ok (.iaload, 1) := by decide +kernel
theorem dL_law_525 : decode cL_law 525 = .ok (.aload_n 0, 1) := by decide +kernel
theorem dL_law_526 : decode cL_law 526 = .ok (.iload_n 3, 1) := by decide +kernel
theorem dL_law_527 : decode cL_law 527 = .ok (.iconst 2, 1) := by decide +kernel
theorem dL_law_528 : decode cL_law 528 = .ok (.iadd, 1) := by decide +kernel
theorem dL_law_529 : decode cL_law 529 = .ok (.iaload, 1) := by decide +kernel
theorem dL_law_530 : decode cL_law 530 = .ok (.invokevirtual 80, 3) := by decide +kernel
theorem dL_law_533 : decode cL_law 533 = .ok (.lcmp, 1) := by decide +kernel
theorem dL_law_534 : decode cL_law 534 = .ok (.ifCond .eq 28, 3) := by decide +kernel
theorem dL_law_537 : decode cL_law 537 = .ok (.iconst 0, 1) := by decide +kernel
theorem dL_law_538 : decode cL_law 538 = .ok (.ireturn, 1) := by decide +kernel
theorem dL_law_539 : decode cL_law 539 = .ok (.aload_n 1, 1) := by decide +kernel
theorem dL_law_540 : decode cL_law 540 = .ok (.aload_n 0, 1) := by decide +kernel
theorem dL_law_541 : decode cL_law 541 = .ok (.iload_n 3, 1) := by decide +kernel
theorem dL_law_542 : decode cL_law 542 = .ok (.iconst 1, 1) := by decide +kernel
theorem dL_law_543 : decode cL_law 543 = .ok (.iadd, 1) := by decide +kernel
theorem dL_law_544 : decode cL_law 544 = .ok (.iaload, 1) := by decide +kernel
theorem dL_law_545 : decode cL_law 545 = .ok (.invokevirtual 81, 3) := by decide +kernel
theorem dL_law_548 : decode cL_law 548 = .ok (.aload_n 2, 1) := by decide +kernel
theorem dL_law_549 : decode cL_law 549 = .ok (.aload_n 0, 1) := by decide +kernel
theorem dL_law_550 : decode cL_law 550 = .ok (.iload_n 3, 1) := by decide +kernel
theorem dL_law_551 : decode cL_law 551 = .ok (.iconst 1, 1) := by decide +kernel
theorem dL_law_552 : decode cL_law 552 = .ok (.iadd, 1) := by decide +kernel
theorem dL_law_553 : decode cL_law 553 = .ok (.iaload, 1) := by decide +kernel
theorem dL_law_554 : decode cL_law 554 = .ok (.invokevirtual 84, 3) := by decide +kernel
theorem dL_law_557 : decode cL_law 557 = .ok (.if_icmp .eq 5, 3) := by decide +kernel
theorem dL_law_560 : decode cL_law 560 = .ok (.iconst 0, 1) := by decide +kernel
theorem dL_law_561 : decode cL_law 561 = .ok (.ireturn, 1) := by decide +kernel
theorem dL_law_562 : decode cL_law 562 = .ok (.iinc 3 6, 3) := by decide +kernel
theorem dL_law_565 : decode cL_law 565 = .ok (.goto (-547), 3) := by decide +kernel
theorem dL_law_568 : decode cL_law 568 = .ok (.iconst 1, 1) := by decide +kernel
theorem dL_law_569 : decode cL_law 569 = .ok (.ireturn, 1) := by decide +kernel
