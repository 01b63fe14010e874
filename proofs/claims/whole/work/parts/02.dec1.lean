theorem dX4_mayDraw_29 : decode cX4_mayDraw 29 = .ok (.ireturn, 1) := by decide +kernel
theorem dX4_owes_0 : decode cX4_owes 0 = .ok (.aload_n 1, 1) := by decide +kernel
theorem dX4_owes_1 : decode cX4_owes 1 = .ok (.getfield 57, 3) := by decide +kernel
theorem dX4_owes_4 : decode cX4_owes 4 = .ok (.iconst 0, 1) := by decide +kernel
theorem dX4_owes_5 : decode cX4_owes 5 = .ok (.iaload, 1) := by decide +kernel
theorem dX4_owes_6 : decode cX4_owes 6 = .ok (.istore_n 2, 1) := by decide +kernel
theorem dX4_owes_7 : decode cX4_owes 7 = .ok (.aload_n 0, 1) := by decide +kernel
theorem dX4_owes_8 : decode cX4_owes 8 = .ok (.getfield 12, 3) := by decide +kernel
theorem dX4_owes_11 : decode cX4_owes 11 = .ok (.getfield 54, 3) := by decide +kernel
theorem dX4_owes_14 : decode cX4_owes 14 = .ok (.ifCond .le 12, 3) := by decide +kernel
theorem dX4_owes_17 : decode cX4_owes 17 = .ok (.iload_n 2, 1) := by decide +kernel
theorem dX4_owes_18 : decode cX4_owes 18 = .ok (.aload_n 1, 1) := by decide +kernel
theorem dX4_owes_19 : decode cX4_owes 19 = .ok (.getfield 57, 3) := by decide +kernel
theorem dX4_owes_22 : decode cX4_owes 22 = .ok (.iconst 1, 1) := by decide +kernel
theorem dX4_owes_23 : decode cX4_owes 23 = .ok (.iaload, 1) := by decide +kernel
theorem dX4_owes_24 : decode cX4_owes 24 = .ok (.iadd, 1) := by decide +kernel
theorem dX4_owes_25 : decode cX4_owes 25 = .ok (.istore_n 2, 1) := by decide +kernel
theorem dX4_owes_26 : decode cX4_owes 26 = .ok (.aload_n 0, 1) := by decide +kernel
theorem dX4_owes_27 : decode cX4_owes 27 = .ok (.getfield 21, 3) := by decide +kernel
theorem dX4_owes_30 : decode cX4_owes 30 = .ok (.iload_n 2, 1) := by decide +kernel
theorem dX4_owes_31 : decode cX4_owes 31 = .ok (.imul, 1) := by decide +kernel
theorem dX4_owes_32 : decode cX4_owes 32 = .ok (.aload_n 0, 1) := by decide +kernel
theorem dX4_owes_33 : decode cX4_owes 33 = .ok (.getfield 32, 3) := by decide +kernel
theorem dX4_owes_36 : decode cX4_owes 36 = .ok (.iadd, 1) := by decide +kernel
theorem dX4_owes_37 : decode cX4_owes 37 = .ok (.ireturn, 1) := by decide +kernel
theorem dX4_tell_0 : decode cX4_tell 0 = .ok (.iload_n 1, 1) := by decide +kernel
theorem dX4_tell_1 : decode cX4_tell 1 = .ok (.tableswitch 177 0 12 #[67, 72, 85, 90, 95, 100, 119, 127, 135, 143, 148, 153, 158], 67) := by decide +kernel
theorem dX4_tell_68 : decode cX4_tell 68 = .ok (.aload_n 0, 1) := by decide +kernel
theorem dX4_tell_69 : decode cX4_tell 69 = .ok (.getfield 21, 3) := by decide +kernel
theorem dX4_tell_72 : decode cX4_tell 72 = .ok (.ireturn, 1) := by decide +kernel
theorem dX4_tell_73 : decode cX4_tell 73 = .ok (.aload_n 0, 1) := by decide +kernel
theorem dX4_tell_74 : decode cX4_tell 74 = .ok (.getfield 25, 3) := by decide +kernel
theorem dX4_tell_77 : decode cX4_tell 77 = .ok (.ifCond .eq 7, 3) := by decide +kernel
theorem dX4_tell_80 : decode cX4_tell 80 = .ok (.iconst 1, 1) := by decide +kernel
theorem dX4_tell_81 : decode cX4_tell 81 = .ok (.goto 4, 3) := by decide +kernel
theorem dX4_tell_84 : decode cX4_tell 84 = .ok (.iconst 0, 1) := by decide +kernel
theorem dX4_tell_85 : decode cX4_tell 85 = .ok (.ireturn, 1) := by decide +kernel
theorem dX4_tell_86 : decode cX4_tell 86 = .ok (.aload_n 0, 1) := by decide +kernel
theorem dX4_tell_87 : decode cX4_tell 87 = .ok (.getfield 29, 3) := by decide +kernel
theorem dX4_tell_90 : decode cX4_tell 90 = .ok (.ireturn, 1) := by decide +kernel
theorem dX4_tell_91 : decode cX4_tell 91 = .ok (.aload_n 0, 1) := by decide +kernel
theorem dX4_tell_92 : decode cX4_tell 92 = .ok (.getfield 32, 3) := by decide +kernel
theorem dX4_tell_95 : decode cX4_tell 95 = .ok (.ireturn, 1) := by decide +kernel
theorem dX4_tell_96 : decode cX4_tell 96 = .ok (.aload_n 0, 1) := by decide +kernel
theorem dX4_tell_97 : decode cX4_tell 97 = .ok (.getfield 35, 3) := by decide +kernel
theorem dX4_tell_100 : decode cX4_tell 100 = .ok (.ireturn, 1) := by decide +kernel
theorem dX4_tell_101 : decode cX4_tell 101 = .ok (.aload_n 0, 1) := by decide +kernel
theorem dX4_tell_102 : decode cX4_tell 102 = .ok (.invokevirtual 63, 3) := by decide +kernel
theorem dX4_tell_105 : decode cX4_tell 105 = .ok (.ifCond .eq 13, 3) := by decide +kernel
theorem dX4_tell_108 : decode cX4_tell 108 = .ok (.aload_n 0, 1) := by decide +kernel
theorem dX4_tell_109 : decode cX4_tell 109 = .ok (.getfield 12, 3) := by decide +kernel
theorem dX4_tell_112 : decode cX4_tell 112 = .ok (.getfield 67, 3) := by decide +kernel
theorem dX4_tell_115 : decode cX4_tell 115 = .ok (.goto 4, 3) := by decide +kernel
theorem dX4_tell_118 : decode cX4_tell 118 = .ok (.iconst (-1), 1) := by decide +kernel
theorem dX4_tell_119 : decode cX4_tell 119 = .ok (.ireturn, 1) := by decide +kernel
theorem dX4_tell_120 : decode cX4_tell 120 = .ok (.aload_n 0, 1) := by decide +kernel
theorem dX4_tell_121 : decode cX4_tell 121 = .ok (.getfield 12, 3) := by decide +kernel
theorem dX4_tell_124 : decode cX4_tell 124 = .ok (.getfield 70, 3) := by decide +kernel
theorem dX4_tell_127 : decode cX4_tell 127 = .ok (.ireturn, 1) := by decide +kernel
theorem dX4_tell_128 : decode cX4_tell 128 = .ok (.aload_n 0, 1) := by decide +kernel
theorem dX4_tell_129 : decode cX4_tell 129 = .ok (.getfield 12, 3) := by decide +kernel
theorem dX4_tell_132 : decode cX4_tell 132 = .ok (.getfield 73, 3) := by decide +kernel
theorem dX4_tell_135 : decode cX4_tell 135 = .ok (.ireturn, 1) := by decide +kernel
theorem dX4_tell_136 : decode cX4_tell 136 = .ok (.aload_n 0, 1) := by decide +kernel
theorem dX4_tell_137 : decode cX4_tell 137 = .ok (.getfield 12, 3) := by decide +kernel
theorem dX4_tell_140 : decode cX4_tell 140 = .ok (.getfield 76, 3) := by decide +kernel
theorem dX4_tell_143 : decode cX4_tell 143 = .ok (.ireturn, 1) := by decide +kernel
theorem dX4_tell_144 : decode cX4_tell 144 = .ok (.aload_n 0, 1) := by decide +kernel
theorem dX4_tell_145 : decode cX4_tell 145 = .ok (.getfield 38, 3) := by decide +kernel
theorem dX4_tell_148 : decode cX4_tell 148 = .ok (.ireturn, 1) := by decide +kernel
theorem dX4_tell_149 : decode cX4_tell 149 = .ok (.aload_n 0, 1) := by decide +kernel
theorem dX4_tell_150 : decode cX4_tell 150 = .ok (.getfield 41, 3) := by decide +kernel
theorem dX4_tell_153 : decode cX4_tell 153 = .ok (.ireturn, 1) := by decide +kernel
theorem dX4_tell_154 : decode cX4_tell 154 = .ok (.aload_n 0, 1) := by decide +kernel
theorem dX4_tell_155 : decode cX4_tell 155 = .ok (.getfield 47, 3) := by decide +kernel
theorem dX4_tell_158 : decode cX4_tell 158 = .ok (.ireturn, 1) := by decide +kernel
theorem dX4_tell_159 : decode cX4_tell 159 = .ok (.aload_n 0, 1) := by decide +kernel
theorem dX4_tell_160 : decode cX4_tell 160 = .ok (.invokevirtual 63, 3) := by decide +kernel
theorem dX4_tell_163 : decode cX4_tell 163 = .ok (.ifCond .eq 13, 3) := by decide +kernel
theorem dX4_tell_166 : decode cX4_tell 166 = .ok (.aload_n 0, 1) := by decide +kernel
theorem dX4_tell_167 : decode cX4_tell 167 = .ok (.getfield 12, 3) := by decide +kernel
theorem dX4_tell_170 : decode cX4_tell 170 = .ok (.getfield 54, 3) := by decide +kernel
theorem dX4_tell_173 : decode cX4_tell 173 = .ok (.goto 4, 3) := by decide +kernel
theorem dX4_tell_176 : decode cX4_tell 176 = .ok (.iconst (-1), 1) := by decide +kernel
theorem dX4_tell_177 : decode cX4_tell 177 = .ok (.ireturn, 1) := by decide +kernel
theorem dX4_tell_178 : decode cX4_tell 178 = .ok (.iconst (-1), 1) := by decide +kernel
theorem dX4_tell_179 : decode cX4_tell 179 = .ok (.ireturn, 1) := by decide +kernel
theorem dX5_init_0 : decode cX5_init 0 = .ok (.aload_n 0, 1) := by decide +kernel
theorem dX5_init_1 : decode cX5_init 1 = .ok (.invokespecial 3, 3) := by decide +kernel
theorem dX5_init_4 : decode cX5_init 4 = .ok (.aload_n 0, 1) := by decide +kernel
theorem dX5_init_5 : decode cX5_init 5 = .ok (.new 9, 3) := by decide +kernel
theorem dX5_init_8 : decode cX5_init 8 = .ok (.dup, 1) := by decide +kernel
theorem dX5_init_9 : decode cX5_init 9 = .ok (.invokespecial 11, 3) := by decide +kernel
theorem dX5_init_12 : decode cX5_init 12 = .ok (.putfield 12, 3) := by decide +kernel
theorem dX5_init_15 : decode cX5_init 15 = .ok (.return_, 1) := by decide +kernel
theorem dX5_weekOfLastDraw_0 : decode cX5_weekOfLastDraw 0 = .ok (.aload_n 1, 1) := by decide +kernel
theorem dX5_weekOfLastDraw_1 : decode cX5_weekOfLastDraw 1 = .ok (.invokevirtual 18, 3) := by decide +kernel
theorem dX5_weekOfLastDraw_4 : decode cX5_weekOfLastDraw 4 = .ok (.ifCond .eq 8, 3) := by decide +kernel
theorem dX5_weekOfLastDraw_7 : decode cX5_weekOfLastDraw 7 = .ok (.aload_n 1, 1) := by decide +kernel
theorem dX5_weekOfLastDraw_8 : decode cX5_weekOfLastDraw 8 = .ok (.getfield 22, 3) := by decide +kernel
theorem dX5_weekOfLastDraw_11 : decode cX5_weekOfLastDraw 11 = .ok (.ireturn, 1) := by decide +kernel
theorem dX5_weekOfLastDraw_12 : decode cX5_weekOfLastDraw 12 = .ok (.aload_n 0, 1) := by decide +kernel
theorem dX5_weekOfLastDraw_13 : decode cX5_weekOfLastDraw 13 = .ok (.getfield 12, 3) := by decide +kernel
theorem dX5_weekOfLastDraw_16 : decode cX5_weekOfLastDraw 16 = .ok (.aload_n 1, 1) := by decide +kernel
theorem dX5_weekOfLastDraw_17 : decode cX5_weekOfLastDraw 17 = .ok (.invokevirtual 26, 3) := by decide +kernel
theorem dX5_weekOfLastDraw_20 : decode cX5_weekOfLastDraw 20 = .ok (.aload_n 1, 1) := by decide +kernel
theorem dX5_weekOfLastDraw_21 : decode cX5_weekOfLastDraw 21 = .ok (.getfield 22, 3) := by decide +kernel
theorem dX5_weekOfLastDraw_24 : decode cX5_weekOfLastDraw 24 = .ok (.sipush 2000, 3) := by decide +kernel
theorem dX5_weekOfLastDraw_27 : decode cX5_weekOfLastDraw 27 = .ok (.iadd, 1) := by decide +kernel
theorem dX5_weekOfLastDraw_28 : decode cX5_weekOfLastDraw 28 = .ok (.istore_n 2, 1) := by decide +kernel
theorem dX5_weekOfLastDraw_29 : decode cX5_weekOfLastDraw 29 = .ok (.iconst 0, 1) := by decide +kernel
theorem dX5_weekOfLastDraw_30 : decode cX5_weekOfLastDraw 30 = .ok (.istore_n 3, 1) := by decide +kernel
theorem dX5_weekOfLastDraw_31 : decode cX5_weekOfLastDraw 31 = .ok (.iload_n 3, 1) := by decide +kernel
theorem dX5_weekOfLastDraw_32 : decode cX5_weekOfLastDraw 32 = .ok (.sipush 2000, 3) := by decide +kernel
theorem dX5_weekOfLastDraw_35 : decode cX5_weekOfLastDraw 35 = .ok (.if_icmp .ge 62, 3) := by decide +kernel
theorem dX5_weekOfLastDraw_38 : decode cX5_weekOfLastDraw 38 = .ok (.aload_n 0, 1) := by decide +kernel
theorem dX5_weekOfLastDraw_39 : decode cX5_weekOfLastDraw 39 = .ok (.getfield 12, 3) := by decide +kernel
theorem dX5_weekOfLastDraw_42 : decode cX5_weekOfLastDraw 42 = .ok (.getfield 22, 3) := by decide +kernel
theorem dX5_weekOfLastDraw_45 : decode cX5_weekOfLastDraw 45 = .ok (.iload_n 2, 1) := by decide +kernel
theorem dX5_weekOfLastDraw_46 : decode cX5_weekOfLastDraw 46 = .ok (.if_icmp .ge 51, 3) := by decide +kernel
theorem dX5_weekOfLastDraw_49 : decode cX5_weekOfLastDraw 49 = .ok (.aload_n 0, 1) := by decide +kernel
theorem dX5_weekOfLastDraw_50 : decode cX5_weekOfLastDraw 50 = .ok (.getfield 12, 3) := by decide +kernel
theorem dX5_weekOfLastDraw_53 : decode cX5_weekOfLastDraw 53 = .ok (.invokevirtual 30, 3) := by decide +kernel
theorem dX5_weekOfLastDraw_56 : decode cX5_weekOfLastDraw 56 = .ok (.aload_n 0, 1) := by decide +kernel
theorem dX5_weekOfLastDraw_57 : decode cX5_weekOfLastDraw 57 = .ok (.getfield 12, 3) := by decide +kernel
theorem dX5_weekOfLastDraw_60 : decode cX5_weekOfLastDraw 60 = .ok (.iconst 1, 1) := by decide +kernel
theorem dX5_weekOfLastDraw_61 : decode cX5_weekOfLastDraw 61 = .ok (.invokevirtual 33, 3) := by decide +kernel
theorem dX5_weekOfLastDraw_64 : decode cX5_weekOfLastDraw 64 = .ok (.pop, 1) := by decide +kernel
theorem dX5_weekOfLastDraw_65 : decode cX5_weekOfLastDraw 65 = .ok (.aload_n 0, 1) := by decide +kernel
theorem dX5_weekOfLastDraw_66 : decode cX5_weekOfLastDraw 66 = .ok (.getfield 12, 3) := by decide +kernel
theorem dX5_weekOfLastDraw_69 : decode cX5_weekOfLastDraw 69 = .ok (.invokevirtual 18, 3) := by decide +kernel
theorem dX5_weekOfLastDraw_72 : decode cX5_weekOfLastDraw 72 = .ok (.ifCond .eq 11, 3) := by decide +kernel
theorem dX5_weekOfLastDraw_75 : decode cX5_weekOfLastDraw 75 = .ok (.aload_n 0, 1) := by decide +kernel
theorem dX5_weekOfLastDraw_76 : decode cX5_weekOfLastDraw 76 = .ok (.getfield 12, 3) := by decide +kernel
theorem dX5_weekOfLastDraw_79 : decode cX5_weekOfLastDraw 79 = .ok (.getfield 22, 3) := by decide +kernel
theorem dX5_weekOfLastDraw_82 : decode cX5_weekOfLastDraw 82 = .ok (.ireturn, 1) := by decide +kernel
theorem dX5_weekOfLastDraw_83 : decode cX5_weekOfLastDraw 83 = .ok (.aload_n 0, 1) := by decide +kernel
theorem dX5_weekOfLastDraw_84 : decode cX5_weekOfLastDraw 84 = .ok (.getfield 12, 3) := by decide +kernel
theorem dX5_weekOfLastDraw_87 : decode cX5_weekOfLastDraw 87 = .ok (.iload_n 2, 1) := by decide +kernel
theorem dX5_weekOfLastDraw_88 : decode cX5_weekOfLastDraw 88 = .ok (.invokevirtual 37, 3) := by decide +kernel
theorem dX5_weekOfLastDraw_91 : decode cX5_weekOfLastDraw 91 = .ok (.iinc 3 1, 3) := by decide +kernel
theorem dX5_weekOfLastDraw_94 : decode cX5_weekOfLastDraw 94 = .ok (.goto (-63), 3) := by decide +kernel
theorem dX5_weekOfLastDraw_97 : decode cX5_weekOfLastDraw 97 = .ok (.iconst (-1), 1) := by decide +kernel
theorem dX5_weekOfLastDraw_98 : decode cX5_weekOfLastDraw 98 = .ok (.ireturn, 1) := by decide +kernel
theorem dX6_init_0 : decode cX6_init 0 = .ok (.aload_n 0, 1) := by decide +kernel
theorem dX6_init_1 : decode cX6_init 1 = .ok (.invokespecial 3, 3) := by decide +kernel
theorem dX6_init_4 : decode cX6_init 4 = .ok (.aload_n 0, 1) := by decide +kernel
theorem dX6_init_5 : decode cX6_init 5 = .ok (.new 9, 3) := by decide +kernel
theorem dX6_init_8 : decode cX6_init 8 = .ok (.dup, 1) := by decide +kernel
theorem dX6_init_9 : decode cX6_init 9 = .ok (.invokespecial 11, 3) := by decide +kernel
theorem dX6_init_12 : decode cX6_init 12 = .ok (.putfield 12, 3) := by decide +kernel
theorem dX6_init_15 : decode cX6_init 15 = .ok (.aload_n 0, 1) := by decide +kernel
theorem dX6_init_16 : decode cX6_init 16 = .ok (.iconst (-1), 1) := by decide +kernel
theorem dX6_init_17 : decode cX6_init 17 = .ok (.putfield 18, 3) := by decide +kernel
theorem dX6_init_20 : decode cX6_init 20 = .ok (.return_, 1) := by decide +kernel
theorem dX6_without_0 : decode cX6_without 0 = .ok (.iload_n 1, 1) := by decide +kernel
theorem dX6_without_1 : decode cX6_without 1 = .ok (.aload_n 0, 1) := by decide +kernel
theorem dX6_without_2 : decode cX6_without 2 = .ok (.getfield 18, 3) := by decide +kernel
theorem dX6_without_5 : decode cX6_without 5 = .ok (.if_icmp .eq 20, 3) := by decide +kernel
theorem dX6_without_8 : decode cX6_without 8 = .ok (.aload_n 0, 1) := by decide +kernel
theorem dX6_without_9 : decode cX6_without 9 = .ok (.getfield 12, 3) := by decide +kernel
theorem dX6_without_12 : decode cX6_without 12 = .ok (.invokevirtual 22, 3) := by decide +kernel
theorem dX6_without_15 : decode cX6_without 15 = .ok (.aload_n 0, 1) := by decide +kernel
theorem dX6_without_16 : decode cX6_without 16 = .ok (.iload_n 1, 1) := by decide +kernel
theorem dX6_without_17 : decode cX6_without 17 = .ok (.putfield 18, 3) := by decide +kernel
theorem dX6_without_20 : decode cX6_without 20 = .ok (.aload_n 0, 1) := by decide +kernel
theorem dX6_without_21 : decode cX6_without 21 = .ok (.iconst 0, 1) := by decide +kernel
theorem dX6_without_22 : decode cX6_without 22 = .ok (.putfield 25, 3) := by decide +kernel
theorem dX6_without_25 : decode cX6_without 25 = .ok (.aload_n 0, 1) := by decide +kernel
theorem dX6_without_26 : decode cX6_without 26 = .ok (.getfield 25, 3) := by decide +kernel
theorem dX6_without_29 : decode cX6_without 29 = .ok (.istore_n 3, 1) := by decide +kernel
theorem dX6_without_30 : decode cX6_without 30 = .ok (.iload_n 3, 1) := by decide +kernel
theorem dX6_without_31 : decode cX6_without 31 = .ok (.aload_n 2, 1) := by decide +kernel
theorem dX6_without_32 : decode cX6_without 32 = .ok (.getfield 28, 3) := by decide +kernel
theorem dX6_without_35 : decode cX6_without 35 = .ok (.if_icmp .ge 59, 3) := by decide +kernel
theorem dX6_without_38 : decode cX6_without 38 = .ok (.aload_n 2, 1) := by decide +kernel
theorem dX6_without_39 : decode cX6_without 39 = .ok (.getfield 33, 3) := by decide +kernel
theorem dX6_without_42 : decode cX6_without 42 = .ok (.iload_n 3, 1) := by decide +kernel
theorem dX6_without_43 : decode cX6_without 43 = .ok (.aaload, 1) := by decide +kernel
theorem dX6_without_44 : decode cX6_without 44 = .ok (.astore 4, 2) := by decide +kernel
theorem dX6_without_46 : decode cX6_without 46 = .ok (.aload 4, 2) := by decide +kernel
theorem dX6_without_48 : decode cX6_without 48 = .ok (.ifnull 40, 3) := by decide +kernel
theorem dX6_without_51 : decode cX6_without 51 = .ok (.aload 4, 2) := by decide +kernel
theorem dX6_without_53 : decode cX6_without 53 = .ok (.iload_n 1, 1) := by decide +kernel
theorem dX6_without_54 : decode cX6_without 54 = .ok (.invokevirtual 37, 3) := by decide +kernel
theorem dX6_without_57 : decode cX6_without 57 = .ok (.ifCond .ne 31, 3) := by decide +kernel
theorem dX6_without_60 : decode cX6_without 60 = .ok (.aload_n 0, 1) := by decide +kernel
theorem dX6_without_61 : decode cX6_without 61 = .ok (.getfield 12, 3) := by decide +kernel
theorem dX6_without_64 : decode cX6_without 64 = .ok (.aload 4, 2) := by decide +kernel
theorem dX6_without_66 : decode cX6_without 66 = .ok (.getfield 43, 3) := by decide +kernel
theorem dX6_without_69 : decode cX6_without 69 = .ok (.aload 4, 2) := by decide +kernel
theorem dX6_without_71 : decode cX6_without 71 = .ok (.getfield 46, 3) := by decide +kernel
theorem dX6_without_74 : decode cX6_without 74 = .ok (.aload 4, 2) := by decide +kernel
theorem dX6_without_76 : decode cX6_without 76 = .ok (.getfield 49, 3) := by decide +kernel
theorem dX6_without_79 : decode cX6_without 79 = .ok (.aload 4, 2) := by decide +kernel
theorem dX6_without_81 : decode cX6_without 81 = .ok (.getfield 52, 3) := by decide +kernel
theorem dX6_without_84 : decode cX6_without 84 = .ok (.invokevirtual 56, 3) := by decide +kernel
theorem dX6_without_87 : decode cX6_without 87 = .ok (.pop, 1) := by decide +kernel
theorem dX6_without_88 : decode cX6_without 88 = .ok (.iinc 3 1, 3) := by decide +kernel
theorem dX6_without_91 : decode cX6_without 91 = .ok (.goto (-61), 3) := by decide +kernel
theorem dX6_without_94 : decode cX6_without 94 = .ok (.aload_n 0, 1) := by decide +kernel
theorem dX6_without_95 : decode cX6_without 95 = .ok (.aload_n 2, 1) := by decide +kernel
theorem dX6_without_96 : decode cX6_without 96 = .ok (.getfield 28, 3) := by decide +kernel
theorem dX6_without_99 : decode cX6_without 99 = .ok (.putfield 25, 3) := by decide +kernel
theorem dX6_without_102 : decode cX6_without 102 = .ok (.aload_n 0, 1) := by decide +kernel
theorem dX6_without_103 : decode cX6_without 103 = .ok (.getfield 12, 3) := by decide +kernel
theorem dX6_without_106 : decode cX6_without 106 = .ok (.areturn, 1) := by decide +kernel
theorem dX7_init_0 : decode cX7_init 0 = .ok (.aload_n 0, 1) := by decide +kernel
theorem dX7_init_1 : decode cX7_init 1 = .ok (.invokespecial 3, 3) := by decide +kernel
theorem dX7_init_4 : decode cX7_init 4 = .ok (.aload_n 0, 1) := by decide +kernel
theorem dX7_init_5 : decode cX7_init 5 = .ok (.aload_n 1, 1) := by decide +kernel
theorem dX7_init_6 : decode cX7_init 6 = .ok (.invokevirtual 9, 3) := by decide +kernel
theorem dX7_init_9 : decode cX7_init 9 = .ok (.checkcast 10, 3) := by decide +kernel
theorem dX7_init_12 : decode cX7_init 12 = .ok (.putfield 15, 3) := by decide +kernel
theorem dX7_init_15 : decode cX7_init 15 = .ok (.return_, 1) := by decide +kernel
theorem dX7_placeOf_0 : decode cX7_placeOf 0 = .ok (.iload_n 0, 1) := by decide +kernel
theorem dX7_placeOf_1 : decode cX7_placeOf 1 = .ok (.ifCond .lt 10, 3) := by decide +kernel
theorem dX7_placeOf_4 : decode cX7_placeOf 4 = .ok (.iload_n 0, 1) := by decide +kernel
theorem dX7_placeOf_5 : decode cX7_placeOf 5 = .ok (.sipush 255, 3) := by decide +kernel
theorem dX7_placeOf_8 : decode cX7_placeOf 8 = .ok (.if_icmp .le 7, 3) := by decide +kernel
theorem dX7_placeOf_11 : decode cX7_placeOf 11 = .ok (.iconst (-1), 1) := by decide +kernel
theorem dX7_placeOf_12 : decode cX7_placeOf 12 = .ok (.goto 10, 3) := by decide +kernel
theorem dX7_placeOf_15 : decode cX7_placeOf 15 = .ok (.ldc 20, 2) := by decide +kernel
theorem dX7_placeOf_17 : decode cX7_placeOf 17 = .ok (.iload_n 0, 1) := by decide +kernel
theorem dX7_placeOf_18 : decode cX7_placeOf 18 = .ok (.i2c, 1) := by decide +kernel
theorem dX7_placeOf_19 : decode cX7_placeOf 19 = .ok (.invokevirtual 22, 3) := by decide +kernel
theorem dX7_placeOf_22 : decode cX7_placeOf 22 = .ok (.ireturn, 1) := by decide +kernel
theorem dX8_init_0 : decode cX8_init 0 = .ok (.aload_n 0, 1) := by decide +kernel
theorem dX8_init_1 : decode cX8_init 1 = .ok (.invokespecial 1, 3) := by decide +kernel
theorem dX8_init_4 : decode cX8_init 4 = .ok (.aload_n 0, 1) := by decide +kernel
theorem dX8_init_5 : decode cX8_init 5 = .ok (.bipush 60, 2) := by decide +kernel
theorem dX8_init_7 : decode cX8_init 7 = .ok (.newarray .int, 2) := by decide +kernel
theorem dX8_init_9 : decode cX8_init 9 = .ok (.putfield 9, 3) := by decide +kernel
theorem dX8_init_12 : decode cX8_init 12 = .ok (.return_, 1) := by decide +kernel
theorem dX8_hasRoom_0 : decode cX8_hasRoom 0 = .ok (.aload_n 0, 1) := by decide +kernel
theorem dX8_hasRoom_1 : decode cX8_hasRoom 1 = .ok (.getfield 13, 3) := by decide +kernel
theorem dX8_hasRoom_4 : decode cX8_hasRoom 4 = .ok (.bipush 20, 2) := by decide +kernel
theorem dX8_hasRoom_6 : decode cX8_hasRoom 6 = .ok (.iadd, 1) := by decide +kernel
theorem dX8_hasRoom_7 : decode cX8_hasRoom 7 = .ok (.bipush 60, 2) := by decide +kernel
theorem dX8_hasRoom_9 : decode cX8_hasRoom 9 = .ok (.if_icmp .gt 7, 3) := by decide +kernel
theorem dX8_hasRoom_12 : decode cX8_hasRoom 12 = .ok (.iconst 1, 1) := by decide +kernel
theorem dX8_hasRoom_13 : decode cX8_hasRoom 13 = .ok (.goto 4, 3) := by decide +kernel
theorem dX8_hasRoom_16 : decode cX8_hasRoom 16 = .ok (.iconst 0, 1) := by decide +kernel
theorem dX8_hasRoom_17 : decode cX8_hasRoom 17 = .ok (.ireturn, 1) := by decide +kernel
theorem dX8_holds_0 : decode cX8_holds 0 = .ok (.iload_n 1, 1) := by decide +kernel
theorem dX8_holds_1 : decode cX8_holds 1 = .ok (.ifCond .lt 15, 3) := by decide +kernel
theorem dX8_holds_4 : decode cX8_holds 4 = .ok (.iload_n 1, 1) := by decide +kernel
theorem dX8_holds_5 : decode cX8_holds 5 = .ok (.aload_n 0, 1) := by decide +kernel
theorem dX8_holds_6 : decode cX8_holds 6 = .ok (.getfield 13, 3) := by decide +kernel
theorem dX8_holds_9 : decode cX8_holds 9 = .ok (.if_icmp .gt 7, 3) := by decide +kernel
theorem dX8_holds_12 : decode cX8_holds 12 = .ok (.iconst 1, 1) := by decide +kernel
theorem dX8_holds_13 : decode cX8_holds 13 = .ok (.goto 4, 3) := by decide +kernel
theorem dX8_holds_16 : decode cX8_holds 16 = .ok (.iconst 0, 1) := by decide +kernel
theorem dX8_holds_17 : decode cX8_holds 17 = .ok (.ireturn, 1) := by decide +kernel
theorem dX8_append_0 : decode cX8_append 0 = .ok (.bipush 24, 2) := by decide +kernel
theorem dX8_append_2 : decode cX8_append 2 = .ok (.istore_n 2, 1) := by decide +kernel
theorem dX8_append_3 : decode cX8_append 3 = .ok (.iload_n 2, 1) := by decide +kernel
theorem dX8_append_4 : decode cX8_append 4 = .ok (.ifCond .lt 44, 3) := by decide +kernel
theorem dX8_append_7 : decode cX8_append 7 = .ok (.aload_n 0, 1) := by decide +kernel
theorem dX8_append_8 : decode cX8_append 8 = .ok (.getfield 13, 3) := by decide +kernel
theorem dX8_append_11 : decode cX8_append 11 = .ok (.bipush 60, 2) := by decide +kernel
theorem dX8_append_13 : decode cX8_append 13 = .ok (.if_icmp .ge 29, 3) := by decide +kernel
theorem dX8_append_16 : decode cX8_append 16 = .ok (.aload_n 0, 1) := by decide +kernel
theorem dX8_append_17 : decode cX8_append 17 = .ok (.getfield 9, 3) := by decide +kernel
theorem dX8_append_20 : decode cX8_append 20 = .ok (.aload_n 0, 1) := by decide +kernel
theorem dX8_append_21 : decode cX8_append 21 = .ok (.getfield 13, 3) := by decide +kernel
theorem dX8_append_24 : decode cX8_append 24 = .ok (.iload_n 1, 1) := by decide +kernel
theorem dX8_append_25 : decode cX8_append 25 = .ok (.iload_n 2, 1) := by decide +kernel
theorem dX8_append_26 : decode cX8_append 26 = .ok (.iushr, 1) := by decide +kernel
theorem dX8_append_27 : decode cX8_append 27 = .ok (.sipush 255, 3) := by decide +kernel
theorem dX8_append_30 : decode cX8_append 30 = .ok (.iand, 1) := by decide +kernel
theorem dX8_append_31 : decode cX8_append 31 = .ok (.iastore, 1) := by decide +kernel
theorem dX8_append_32 : decode cX8_append 32 = .ok (.aload_n 0, 1) := by decide +kernel
theorem dX8_append_33 : decode cX8_append 33 = .ok (.dup, 1) := by decide +kernel
theorem dX8_append_34 : decode cX8_append 34 = .ok (.getfield 13, 3) := by decide +kernel
theorem dX8_append_37 : decode cX8_append 37 = .ok (.iconst 1, 1) := by decide +kernel
theorem dX8_append_38 : decode cX8_append 38 = .ok (.iadd, 1) := by decide +kernel
theorem dX8_append_39 : decode cX8_append 39 = .ok (.putfield 13, 3) := by decide +kernel
theorem dX8_append_42 : decode cX8_append 42 = .ok (.iinc 2 (-8), 3) := by decide +kernel
theorem dX8_append_45 : decode cX8_append 45 = .ok (.goto (-42), 3) := by decide +kernel
theorem dX8_append_48 : decode cX8_append 48 = .ok (.return_, 1) := by decide +kernel
theorem dX9_init_0 : decode cX9_init 0 = .ok (.aload_n 0, 1) := by decide +kernel
theorem dX9_init_1 : decode cX9_init 1 = .ok (.invokespecial 3, 3) := by decide +kernel
theorem dX9_init_4 : decode cX9_init 4 = .ok (.aload_n 0, 1) := by decide +kernel
theorem dX9_init_5 : decode cX9_init 5 = .ok (.bipush 8, 2) := by decide +kernel
theorem dX9_init_7 : decode cX9_init 7 = .ok (.newarray .int, 2) := by decide +kernel
theorem dX9_init_9 : decode cX9_init 9 = .ok (.putfield 11, 3) := by decide +kernel
theorem dX9_init_12 : decode cX9_init 12 = .ok (.return_, 1) := by decide +kernel
theorem dX9_read_0 : decode cX9_read 0 = .ok (.getstatic 17, 3) := by decide +kernel
theorem dX9_read_3 : decode cX9_read 3 = .ok (.iconst 0, 1) := by decide +kernel
theorem dX9_read_4 : decode cX9_read 4 = .ok (.aload_n 0, 1) := by decide +kernel
theorem dX9_read_5 : decode cX9_read 5 = .ok (.getfield 11, 3) := by decide +kernel
theorem dX9_read_8 : decode cX9_read 8 = .ok (.iconst 0, 1) := by decide +kernel
theorem dX9_read_9 : decode cX9_read 9 = .ok (.bipush 8, 2) := by decide +kernel
theorem dX9_read_11 : decode cX9_read 11 = .ok (.invokestatic 20, 3) := by decide +kernel
theorem dX9_read_14 : decode cX9_read 14 = .ok (.aload_n 0, 1) := by decide +kernel
theorem dX9_read_15 : decode cX9_read 15 = .ok (.iconst 0, 1) := by decide +kernel
theorem dX9_read_16 : decode cX9_read 16 = .ok (.putfield 26, 3) := by decide +kernel
theorem dX9_read_19 : decode cX9_read 19 = .ok (.iconst 0, 1) := by decide +kernel
theorem dX9_read_20 : decode cX9_read 20 = .ok (.istore_n 3, 1) := by decide +kernel
theorem dX9_read_21 : decode cX9_read 21 = .ok (.iload_n 3, 1) := by decide +kernel
theorem dX9_read_22 : decode cX9_read 22 = .ok (.iload_n 2, 1) := by decide +kernel
theorem dX9_read_23 : decode cX9_read 23 = .ok (.if_icmp .gt 43, 3) := by decide +kernel
theorem dX9_read_26 : decode cX9_read 26 = .ok (.aload_n 0, 1) := by decide +kernel
theorem dX9_read_27 : decode cX9_read 27 = .ok (.aload_n 1, 1) := by decide +kernel
theorem dX9_read_28 : decode cX9_read 28 = .ok (.iload_n 2, 1) := by decide +kernel
theorem dX9_read_29 : decode cX9_read 29 = .ok (.invokevirtual 30, 3) := by decide +kernel
theorem dX9_read_32 : decode cX9_read 32 = .ok (.istore 4, 2) := by decide +kernel
theorem dX9_read_34 : decode cX9_read 34 = .ok (.iload 4, 2) := by decide +kernel
theorem dX9_read_36 : decode cX9_read 36 = .ok (.ifCond .ne 11, 3) := by decide +kernel
theorem dX9_read_39 : decode cX9_read 39 = .ok (.aload_n 0, 1) := by decide +kernel
theorem dX9_read_40 : decode cX9_read 40 = .ok (.getfield 26, 3) := by decide +kernel
theorem dX9_read_43 : decode cX9_read 43 = .ok (.iload_n 2, 1) := by decide +kernel
theorem dX9_read_44 : decode cX9_read 44 = .ok (.if_icmp .lt 6, 3) := by decide +kernel
theorem dX9_read_47 : decode cX9_read 47 = .ok (.iload 4, 2) := by decide +kernel
theorem dX9_read_49 : decode cX9_read 49 = .ok (.ireturn, 1) := by decide +kernel
theorem dX9_read_50 : decode cX9_read 50 = .ok (.aload_n 0, 1) := by decide +kernel
theorem dX9_read_51 : decode cX9_read 51 = .ok (.dup, 1) := by decide +kernel
theorem dX9_read_52 : decode cX9_read 52 = .ok (.getfield 26, 3) := by decide +kernel
theorem dX9_read_55 : decode cX9_read 55 = .ok (.iconst 1, 1) := by decide +kernel
theorem dX9_read_56 : decode cX9_read 56 = .ok (.iadd, 1) := by decide +kernel
theorem dX9_read_57 : decode cX9_read 57 = .ok (.putfield 26, 3) := by decide +kernel
theorem dX9_read_60 : decode cX9_read 60 = .ok (.iinc 3 1, 3) := by decide +kernel
theorem dX9_read_63 : decode cX9_read 63 = .ok (.goto (-42), 3) := by decide +kernel
theorem dX9_read_66 : decode cX9_read 66 = .ok (.iconst 0, 1) := by decide +kernel
theorem dX9_read_67 : decode cX9_read 67 = .ok (.ireturn, 1) := by decide +kernel
theorem dX9_rulesRead_0 : decode cX9_rulesRead 0 = .ok (.new 9, 3) := by decide +kernel
theorem dX9_rulesRead_3 : decode cX9_rulesRead 3 = .ok (.dup, 1) := by decide +kernel
theorem dX9_rulesRead_4 : decode cX9_rulesRead 4 = .ok (.aload_n 0, 1) := by decide +kernel
theorem dX9_rulesRead_5 : decode cX9_rulesRead 5 = .ok (.getfield 11, 3) := by decide +kernel
theorem dX9_rulesRead_8 : decode cX9_rulesRead 8 = .ok (.invokespecial 34, 3) := by decide +kernel
theorem dX9_rulesRead_11 : decode cX9_rulesRead 11 = .ok (.areturn, 1) := by decide +kernel
theorem dX9_readClause_0 : decode cX9_readClause 0 = .ok (.aload_n 0, 1) := by decide +kernel
theorem dX9_readClause_1 : decode cX9_readClause 1 = .ok (.getfield 26, 3) := by decide +kernel
theorem dX9_readClause_4 : decode cX9_readClause 4 = .ok (.iload_n 2, 1) := by decide +kernel
theorem dX9_readClause_5 : decode cX9_readClause 5 = .ok (.if_icmp .ge 15, 3) := by decide +kernel
theorem dX9_readClause_8 : decode cX9_readClause 8 = .ok (.aload_n 1, 1) := by decide +kernel
theorem dX9_readClause_9 : decode cX9_readClause 9 = .ok (.aload_n 0, 1) := by decide +kernel
theorem dX9_readClause_10 : decode cX9_readClause 10 = .ok (.getfield 26, 3) := by decide +kernel
theorem dX9_readClause_13 : decode cX9_readClause 13 = .ok (.iaload, 1) := by decide +kernel
theorem dX9_readClause_14 : decode cX9_readClause 14 = .ok (.invokestatic 37, 3) := by decide +kernel
theorem dX9_readClause_17 : decode cX9_readClause 17 = .ok (.goto 4, 3) := by decide +kernel
theorem dX9_readClause_20 : decode cX9_readClause 20 = .ok (.iconst (-1), 1) := by decide +kernel
theorem dX9_readClause_21 : decode cX9_readClause 21 = .ok (.istore_n 3, 1) := by decide +kernel
theorem dX9_readClause_22 : decode cX9_readClause 22 = .ok (.iload_n 3, 1) := by decide +kernel
theorem dX9_readClause_23 : decode cX9_readClause 23 = .ok (.iconst (-1), 1) := by decide +kernel
theorem dX9_readClause_24 : decode cX9_readClause 24 = .ok (.if_icmp .ne 12, 3) := by decide +kernel
theorem dX9_readClause_27 : decode cX9_readClause 27 = .ok (.iconst 1, 1) := by decide +kernel
theorem dX9_readClause_28 : decode cX9_readClause 28 = .ok (.aload_n 0, 1) := by decide +kernel
theorem dX9_readClause_29 : decode cX9_readClause 29 = .ok (.getfield 26, 3) := by decide +kernel
theorem dX9_readClause_32 : decode cX9_readClause 32 = .ok (.invokestatic 41, 3) := by decide +kernel
theorem dX9_readClause_35 : decode cX9_readClause 35 = .ok (.ireturn, 1) := by decide +kernel
theorem dX9_readClause_36 : decode cX9_readClause 36 = .ok (.aload_n 0, 1) := by decide +kernel
theorem dX9_readClause_37 : decode cX9_readClause 37 = .ok (.dup, 1) := by decide +kernel
theorem dX9_readClause_38 : decode cX9_readClause 38 = .ok (.getfield 26, 3) := by decide +kernel
theorem dX9_readClause_41 : decode cX9_readClause 41 = .ok (.iconst 1, 1) := by decide +kernel
theorem dX9_readClause_42 : decode cX9_readClause 42 = .ok (.iadd, 1) := by decide +kernel
theorem dX9_readClause_43 : decode cX9_readClause 43 = .ok (.putfield 26, 3) := by decide +kernel
theorem dX9_readClause_46 : decode cX9_readClause 46 = .ok (.aload_n 0, 1) := by decide +kernel
theorem dX9_readClause_47 : decode cX9_readClause 47 = .ok (.getfield 26, 3) := by decide +kernel
theorem dX9_readClause_50 : decode cX9_readClause 50 = .ok (.istore 4, 2) := by decide +kernel
theorem dX9_readClause_52 : decode cX9_readClause 52 = .ok (.iconst 0, 1) := by decide +kernel
theorem dX9_readClause_53 : decode cX9_readClause 53 = .ok (.istore 5, 2) := by decide +kernel
theorem dX9_readClause_55 : decode cX9_readClause 55 = .ok (.aload_n 0, 1) := by decide +kernel
theorem dX9_readClause_56 : decode cX9_readClause 56 = .ok (.getfield 26, 3) := by decide +kernel
theorem dX9_readClause_59 : decode cX9_readClause 59 = .ok (.iload_n 2, 1) := by decide +kernel
theorem dX9_readClause_60 : decode cX9_readClause 60 = .ok (.if_icmp .ge 75, 3) := by decide +kernel
theorem dX9_readClause_63 : decode cX9_readClause 63 = .ok (.aload_n 1, 1) := by decide +kernel
theorem dX9_readClause_64 : decode cX9_readClause 64 = .ok (.aload_n 0, 1) := by decide +kernel
theorem dX9_readClause_65 : decode cX9_readClause 65 = .ok (.getfield 26, 3) := by decide +kernel
theorem dX9_readClause_68 : decode cX9_readClause 68 = .ok (.iaload, 1) := by decide +kernel
theorem dX9_readClause_69 : decode cX9_readClause 69 = .ok (.bipush 48, 2) := by decide +kernel
theorem dX9_readClause_71 : decode cX9_readClause 71 = .ok (.if_icmp .lt 64, 3) := by decide +kernel
theorem dX9_readClause_74 : decode cX9_readClause 74 = .ok (.aload_n 1, 1) := by decide +kernel
theorem dX9_readClause_75 : decode cX9_readClause 75 = .ok (.aload_n 0, 1) := by decide +kernel
theorem dX9_readClause_76 : decode cX9_readClause 76 = .ok (.getfield 26, 3) := by decide +kernel
theorem dX9_readClause_79 : decode cX9_readClause 79 = .ok (.iaload, 1) := by decide +kernel
theorem dX9_readClause_80 : decode cX9_readClause 80 = .ok (.bipush 57, 2) := by decide +kernel
theorem dX9_readClause_82 : decode cX9_readClause 82 = .ok (.if_icmp .gt 53, 3) := by decide +kernel
theorem dX9_readClause_85 : decode cX9_readClause 85 = .ok (.aload_n 0, 1) := by decide +kernel
theorem dX9_readClause_86 : decode cX9_readClause 86 = .ok (.getfield 26, 3) := by decide +kernel
theorem dX9_readClause_89 : decode cX9_readClause 89 = .ok (.iload 4, 2) := by decide +kernel
theorem dX9_readClause_91 : decode cX9_readClause 91 = .ok (.isub, 1) := by decide +kernel
theorem dX9_readClause_92 : decode cX9_readClause 92 = .ok (.iconst 4, 1) := by decide +kernel
theorem dX9_readClause_93 : decode cX9_readClause 93 = .ok (.if_icmp .ne 12, 3) := by decide +kernel
theorem dX9_readClause_96 : decode cX9_readClause 96 = .ok (.iconst 3, 1) := by decide +kernel
theorem dX9_readClause_97 : decode cX9_readClause 97 = .ok (.aload_n 0, 1) := by decide +kernel
theorem dX9_readClause_98 : decode cX9_readClause 98 = .ok (.getfield 26, 3) := by decide +kernel
theorem dX9_readClause_101 : decode cX9_readClause 101 = .ok (.invokestatic 41, 3) := by decide +kernel
theorem dX9_readClause_104 : decode cX9_readClause 104 = .ok (.ireturn, 1) := by decide +kernel
theorem dX9_readClause_105 : decode cX9_readClause 105 = .ok (.iload 5, 2) := by decide +kernel
theorem dX9_readClause_107 : decode cX9_readClause 107 = .ok (.bipush 10, 2) := by decide +kernel
theorem dX9_readClause_109 : decode cX9_readClause 109 = .ok (.imul, 1) := by decide +kernel
theorem dX9_readClause_110 : decode cX9_readClause 110 = .ok (.aload_n 1, 1) := by decide +kernel
theorem dX9_readClause_111 : decode cX9_readClause 111 = .ok (.aload_n 0, 1) := by decide +kernel
theorem dX9_readClause_112 : decode cX9_readClause 112 = .ok (.getfield 26, 3) := by decide +kernel
theorem dX9_readClause_115 : decode cX9_readClause 115 = .ok (.iaload, 1) := by decide +kernel
theorem dX9_readClause_116 : decode cX9_readClause 116 = .ok (.iadd, 1) := by decide +kernel
theorem dX9_readClause_117 : decode cX9_readClause 117 = .ok (.bipush 48, 2) := by decide +kernel
theorem dX9_readClause_119 : decode cX9_readClause 119 = .ok (.isub, 1) := by decide +kernel
theorem dX9_readClause_120 : decode cX9_readClause 120 = .ok (.istore 5, 2) := by decide +kernel
theorem dX9_readClause_122 : decode cX9_readClause 122 = .ok (.aload_n 0, 1) := by decide +kernel
theorem dX9_readClause_123 : decode cX9_readClause 123 = .ok (.dup, 1) := by decide +kernel
theorem dX9_readClause_124 : decode cX9_readClause 124 = .ok (.getfield 26, 3) := by decide +kernel
theorem dX9_readClause_127 : decode cX9_readClause 127 = .ok (.iconst 1, 1) := by decide +kernel
theorem dX9_readClause_128 : decode cX9_readClause 128 = .ok (.iadd, 1) := by decide +kernel
theorem dX9_readClause_129 : decode cX9_readClause 129 = .ok (.putfield 26, 3) := by decide +kernel
theorem dX9_readClause_132 : decode cX9_readClause 132 = .ok (.goto (-77), 3) := by decide +kernel
theorem dX9_readClause_135 : decode cX9_readClause 135 = .ok (.aload_n 0, 1) := by decide +kernel
theorem dX9_readClause_136 : decode cX9_readClause 136 = .ok (.getfield 26, 3) := by decide +kernel
theorem dX9_readClause_139 : decode cX9_readClause 139 = .ok (.iload 4, 2) := by decide +kernel
theorem dX9_readClause_141 : decode cX9_readClause 141 = .ok (.if_icmp .ne 12, 3) := by decide +kernel
theorem dX9_readClause_144 : decode cX9_readClause 144 = .ok (.iconst 2, 1) := by decide +kernel
theorem dX9_readClause_145 : decode cX9_readClause 145 = .ok (.aload_n 0, 1) := by decide +kernel
theorem dX9_readClause_146 : decode cX9_readClause 146 = .ok (.getfield 26, 3) := by decide +kernel
theorem dX9_readClause_149 : decode cX9_readClause 149 = .ok (.invokestatic 41, 3) := by decide +kernel
theorem dX9_readClause_152 : decode cX9_readClause 152 = .ok (.ireturn, 1) := by decide +kernel
theorem dX9_readClause_153 : decode cX9_readClause 153 = .ok (.iload 5, 2) := by decide +kernel
theorem dX9_readClause_155 : decode cX9_readClause 155 = .ok (.getstatic 45, 3) := by decide +kernel
theorem dX9_readClause_158 : decode cX9_readClause 158 = .ok (.iload_n 3, 1) := by decide +kernel
theorem dX9_readClause_159 : decode cX9_readClause 159 = .ok (.iaload, 1) := by decide +kernel
theorem dX9_readClause_160 : decode cX9_readClause 160 = .ok (.if_icmp .lt 13, 3) := by decide +kernel
theorem dX9_readClause_163 : decode cX9_readClause 163 = .ok (.iload 5, 2) := by decide +kernel
theorem dX9_readClause_165 : decode cX9_readClause 165 = .ok (.getstatic 48, 3) := by decide +kernel
theorem dX9_readClause_168 : decode cX9_readClause 168 = .ok (.iload_n 3, 1) := by decide +kernel
theorem dX9_readClause_169 : decode cX9_readClause 169 = .ok (.iaload, 1) := by decide +kernel
theorem dX9_readClause_170 : decode cX9_readClause 170 = .ok (.if_icmp .le 10, 3) := by decide +kernel
theorem dX9_readClause_173 : decode cX9_readClause 173 = .ok (.iconst 4, 1) := by decide +kernel
theorem dX9_readClause_174 : decode cX9_readClause 174 = .ok (.iload 4, 2) := by decide +kernel
theorem dX9_readClause_176 : decode cX9_readClause 176 = .ok (.invokestatic 41, 3) := by decide +kernel
theorem dX9_readClause_179 : decode cX9_readClause 179 = .ok (.ireturn, 1) := by decide +kernel
theorem dX9_readClause_180 : decode cX9_readClause 180 = .ok (.aload_n 0, 1) := by decide +kernel
theorem dX9_readClause_181 : decode cX9_readClause 181 = .ok (.getfield 26, 3) := by decide +kernel
theorem dX9_readClause_184 : decode cX9_readClause 184 = .ok (.iload_n 2, 1) := by decide +kernel
theorem dX9_readClause_185 : decode cX9_readClause 185 = .ok (.if_icmp .ge 23, 3) := by decide +kernel
theorem dX9_readClause_188 : decode cX9_readClause 188 = .ok (.aload_n 1, 1) := by decide +kernel
theorem dX9_readClause_189 : decode cX9_readClause 189 = .ok (.aload_n 0, 1) := by decide +kernel
theorem dX9_readClause_190 : decode cX9_readClause 190 = .ok (.getfield 26, 3) := by decide +kernel
theorem dX9_readClause_193 : decode cX9_readClause 193 = .ok (.iaload, 1) := by decide +kernel
theorem dX9_readClause_194 : decode cX9_readClause 194 = .ok (.bipush 59, 2) := by decide +kernel
theorem dX9_readClause_196 : decode cX9_readClause 196 = .ok (.if_icmp .eq 12, 3) := by decide +kernel
theorem dX9_readClause_199 : decode cX9_readClause 199 = .ok (.iconst 5, 1) := by decide +kernel
theorem dX9_readClause_200 : decode cX9_readClause 200 = .ok (.aload_n 0, 1) := by decide +kernel
theorem dX9_readClause_201 : decode cX9_readClause 201 = .ok (.getfield 26, 3) := by decide +kernel
theorem dX9_readClause_204 : decode cX9_readClause 204 = .ok (.invokestatic 41, 3) := by decide +kernel
theorem dX9_readClause_207 : decode cX9_readClause 207 = .ok (.ireturn, 1) := by decide +kernel
theorem dX9_readClause_208 : decode cX9_readClause 208 = .ok (.aload_n 0, 1) := by decide +kernel
theorem dX9_readClause_209 : decode cX9_readClause 209 = .ok (.getfield 11, 3) := by decide +kernel
theorem dX9_readClause_212 : decode cX9_readClause 212 = .ok (.iload_n 3, 1) := by decide +kernel
theorem dX9_readClause_213 : decode cX9_readClause 213 = .ok (.iload 5, 2) := by decide +kernel
theorem dX9_readClause_215 : decode cX9_readClause 215 = .ok (.iastore, 1) := by decide +kernel
theorem dX9_readClause_216 : decode cX9_readClause 216 = .ok (.iconst 0, 1) := by decide +kernel
theorem dX9_readClause_217 : decode cX9_readClause 217 = .ok (.ireturn, 1) := by decide +kernel
theorem dX9_faultAt_0 : decode cX9_faultAt 0 = .ok (.bipush (-100), 2) := by decide +kernel
theorem dX9_faultAt_2 : decode cX9_faultAt 2 = .ok (.iload_n 0, 1) := by decide +kernel
theorem dX9_faultAt_3 : decode cX9_faultAt 3 = .ok (.imul, 1) := by decide +kernel
theorem dX9_faultAt_4 : decode cX9_faultAt 4 = .ok (.iload_n 1, 1) := by decide +kernel
theorem dX9_faultAt_5 : decode cX9_faultAt 5 = .ok (.isub, 1) := by decide +kernel
theorem dX9_faultAt_6 : decode cX9_faultAt 6 = .ok (.ireturn, 1) := by decide +kernel
theorem dX10_init_0 : decode cX10_init 0 = .ok (.aload_n 0, 1) := by decide +kernel
theorem dX10_init_1 : decode cX10_init 1 = .ok (.invokespecial 1, 3) := by decide +kernel
theorem dX10_init_4 : decode cX10_init 4 = .ok (.aload_n 0, 1) := by decide +kernel
theorem dX10_init_5 : decode cX10_init 5 = .ok (.new 7, 3) := by decide +kernel
theorem dX10_init_8 : decode cX10_init 8 = .ok (.dup, 1) := by decide +kernel
theorem dX10_init_9 : decode cX10_init 9 = .ok (.invokespecial 9, 3) := by decide +kernel
theorem dX10_init_12 : decode cX10_init 12 = .ok (.putfield 10, 3) := by decide +kernel
theorem dX10_init_15 : decode cX10_init 15 = .ok (.aload_n 0, 1) := by decide +kernel
theorem dX10_init_16 : decode cX10_init 16 = .ok (.new 16, 3) := by decide +kernel
theorem dX10_init_19 : decode cX10_init 19 = .ok (.dup, 1) := by decide +kernel
theorem dX10_init_20 : decode cX10_init 20 = .ok (.invokespecial 18, 3) := by decide +kernel
theorem dX10_init_23 : decode cX10_init 23 = .ok (.putfield 19, 3) := by decide +kernel
theorem dX10_init_26 : decode cX10_init 26 = .ok (.aload_n 0, 1) := by decide +kernel
theorem dX10_init_27 : decode cX10_init 27 = .ok (.new 23, 3) := by decide +kernel
theorem dX10_init_30 : decode cX10_init 30 = .ok (.dup, 1) := by decide +kernel
theorem dX10_init_31 : decode cX10_init 31 = .ok (.invokespecial 25, 3) := by decide +kernel
theorem dX10_init_34 : decode cX10_init 34 = .ok (.putfield 26, 3) := by decide +kernel
theorem dX10_init_37 : decode cX10_init 37 = .ok (.aload_n 0, 1) := by decide +kernel
theorem dX10_init_38 : decode cX10_init 38 = .ok (.new 30, 3) := by decide +kernel
theorem dX10_init_41 : decode cX10_init 41 = .ok (.dup, 1) := by decide +kernel
theorem dX10_init_42 : decode cX10_init 42 = .ok (.invokespecial 32, 3) := by decide +kernel
theorem dX10_init_45 : decode cX10_init 45 = .ok (.putfield 33, 3) := by decide +kernel
theorem dX10_init_48 : decode cX10_init 48 = .ok (.aload_n 0, 1) := by decide +kernel
theorem dX10_init_49 : decode cX10_init 49 = .ok (.new 37, 3) := by decide +kernel
theorem dX10_init_52 : decode cX10_init 52 = .ok (.dup, 1) := by decide +kernel
theorem dX10_init_53 : decode cX10_init 53 = .ok (.invokespecial 39, 3) := by decide +kernel
theorem dX10_init_56 : decode cX10_init 56 = .ok (.putfield 40, 3) := by decide +kernel
theorem dX10_init_59 : decode cX10_init 59 = .ok (.aload_n 0, 1) := by decide +kernel
theorem dX10_init_60 : decode cX10_init 60 = .ok (.new 44, 3) := by decide +kernel
theorem dX10_init_63 : decode cX10_init 63 = .ok (.dup, 1) := by decide +kernel
theorem dX10_init_64 : decode cX10_init 64 = .ok (.invokespecial 46, 3) := by decide +kernel
theorem dX10_init_67 : decode cX10_init 67 = .ok (.putfield 47, 3) := by decide +kernel
theorem dX10_init_70 : decode cX10_init 70 = .ok (.return_, 1) := by decide +kernel
theorem dX10_feed_0 : decode cX10_feed 0 = .ok (.aload_n 0, 1) := by decide +kernel
theorem dX10_feed_1 : decode cX10_feed 1 = .ok (.getfield 26, 3) := by decide +kernel
theorem dX10_feed_4 : decode cX10_feed 4 = .ok (.invokevirtual 51, 3) := by decide +kernel
theorem dX10_feed_7 : decode cX10_feed 7 = .ok (.ifCond .ne 5, 3) := by decide +kernel
theorem dX10_feed_10 : decode cX10_feed 10 = .ok (.iconst (-1), 1) := by decide +kernel
theorem dX10_feed_11 : decode cX10_feed 11 = .ok (.ireturn, 1) := by decide +kernel
theorem dX10_feed_12 : decode cX10_feed 12 = .ok (.aload_n 0, 1) := by decide +kernel
theorem dX10_feed_13 : decode cX10_feed 13 = .ok (.getfield 26, 3) := by decide +kernel
theorem dX10_feed_16 : decode cX10_feed 16 = .ok (.iload_n 1, 1) := by decide +kernel
theorem dX10_feed_17 : decode cX10_feed 17 = .ok (.invokevirtual 55, 3) := by decide +kernel
theorem dX10_feed_20 : decode cX10_feed 20 = .ok (.aload_n 0, 1) := by decide +kernel
theorem dX10_feed_21 : decode cX10_feed 21 = .ok (.getfield 26, 3) := by decide +kernel
theorem dX10_feed_24 : decode cX10_feed 24 = .ok (.iload_n 2, 1) := by decide +kernel
theorem dX10_feed_25 : decode cX10_feed 25 = .ok (.invokevirtual 55, 3) := by decide +kernel
theorem dX10_feed_28 : decode cX10_feed 28 = .ok (.aload_n 0, 1) := by decide +kernel
theorem dX10_feed_29 : decode cX10_feed 29 = .ok (.getfield 26, 3) := by decide +kernel
theorem dX10_feed_32 : decode cX10_feed 32 = .ok (.iload_n 3, 1) := by decide +kernel
theorem dX10_feed_33 : decode cX10_feed 33 = .ok (.invokevirtual 55, 3) := by decide +kernel
theorem dX10_feed_36 : decode cX10_feed 36 = .ok (.aload_n 0, 1) := by decide +kernel
theorem dX10_feed_37 : decode cX10_feed 37 = .ok (.getfield 26, 3) := by decide +kernel
theorem dX10_feed_40 : decode cX10_feed 40 = .ok (.iload 4, 2) := by decide +kernel
theorem dX10_feed_42 : decode cX10_feed 42 = .ok (.invokevirtual 55, 3) := by decide +kernel
theorem dX10_feed_45 : decode cX10_feed 45 = .ok (.aload_n 0, 1) := by decide +kernel
theorem dX10_feed_46 : decode cX10_feed 46 = .ok (.getfield 26, 3) := by decide +kernel
theorem dX10_feed_49 : decode cX10_feed 49 = .ok (.iload 5, 2) := by decide +kernel
theorem dX10_feed_51 : decode cX10_feed 51 = .ok (.invokevirtual 55, 3) := by decide +kernel
theorem dX10_feed_54 : decode cX10_feed 54 = .ok (.aload_n 0, 1) := by decide +kernel
theorem dX10_feed_55 : decode cX10_feed 55 = .ok (.getfield 26, 3) := by decide +kernel
theorem dX10_feed_58 : decode cX10_feed 58 = .ok (.getfield 59, 3) := by decide +kernel
theorem dX10_feed_61 : decode cX10_feed 61 = .ok (.ireturn, 1) := by decide +kernel
theorem dX10_member_0 : decode cX10_member 0 = .ok (.aload_n 0, 1) := by decide +kernel
theorem dX10_member_1 : decode cX10_member 1 = .ok (.iconst 0, 1) := by decide +kernel
theorem dX10_member_2 : decode cX10_member 2 = .ok (.iload_n 1, 1) := by decide +kernel
theorem dX10_member_3 : decode cX10_member 3 = .ok (.iconst 0, 1) := by decide +kernel
theorem dX10_member_4 : decode cX10_member 4 = .ok (.aconst_null, 1) := by decide +kernel
theorem dX10_member_5 : decode cX10_member 5 = .ok (.invokevirtual 65, 3) := by decide +kernel
theorem dX10_member_8 : decode cX10_member 8 = .ok (.ifCond .eq 15, 3) := by decide +kernel
theorem dX10_member_11 : decode cX10_member 11 = .ok (.aload_n 0, 1) := by decide +kernel
theorem dX10_member_12 : decode cX10_member 12 = .ok (.getfield 10, 3) := by decide +kernel
theorem dX10_member_15 : decode cX10_member 15 = .ok (.getfield 69, 3) := by decide +kernel
theorem dX10_member_18 : decode cX10_member 18 = .ok (.iconst 1, 1) := by decide +kernel
theorem dX10_member_19 : decode cX10_member 19 = .ok (.isub, 1) := by decide +kernel
theorem dX10_member_20 : decode cX10_member 20 = .ok (.goto 4, 3) := by decide +kernel
theorem dX10_member_23 : decode cX10_member 23 = .ok (.iconst (-1), 1) := by decide +kernel
theorem dX10_member_24 : decode cX10_member 24 = .ok (.ireturn, 1) := by decide +kernel
theorem dX10_vote_0 : decode cX10_vote 0 = .ok (.aload_n 0, 1) := by decide +kernel
theorem dX10_vote_1 : decode cX10_vote 1 = .ok (.getfield 19, 3) := by decide +kernel
theorem dX10_vote_4 : decode cX10_vote 4 = .ok (.invokevirtual 72, 3) := by decide +kernel
theorem dX10_vote_7 : decode cX10_vote 7 = .ok (.ifCond .ne 25, 3) := by decide +kernel
theorem dX10_vote_10 : decode cX10_vote 10 = .ok (.aload_n 0, 1) := by decide +kernel
theorem dX10_vote_11 : decode cX10_vote 11 = .ok (.getfield 26, 3) := by decide +kernel
theorem dX10_vote_14 : decode cX10_vote 14 = .ok (.iload_n 2, 1) := by decide +kernel
theorem dX10_vote_15 : decode cX10_vote 15 = .ok (.invokevirtual 75, 3) := by decide +kernel
theorem dX10_vote_18 : decode cX10_vote 18 = .ok (.ifCond .eq 14, 3) := by decide +kernel
theorem dX10_vote_21 : decode cX10_vote 21 = .ok (.aload_n 0, 1) := by decide +kernel
theorem dX10_vote_22 : decode cX10_vote 22 = .ok (.getfield 10, 3) := by decide +kernel
theorem dX10_vote_25 : decode cX10_vote 25 = .ok (.iload_n 1, 1) := by decide +kernel
theorem dX10_vote_26 : decode cX10_vote 26 = .ok (.invokevirtual 79, 3) := by decide +kernel
theorem dX10_vote_29 : decode cX10_vote 29 = .ok (.ifCond .ne 5, 3) := by decide +kernel
theorem dX10_vote_32 : decode cX10_vote 32 = .ok (.iconst (-1), 1) := by decide +kernel
theorem dX10_vote_33 : decode cX10_vote 33 = .ok (.ireturn, 1) := by decide +kernel
theorem dX10_vote_34 : decode cX10_vote 34 = .ok (.aload_n 0, 1) := by decide +kernel
theorem dX10_vote_35 : decode cX10_vote 35 = .ok (.getfield 33, 3) := by decide +kernel
theorem dX10_vote_38 : decode cX10_vote 38 = .ok (.aload_n 0, 1) := by decide +kernel
theorem dX10_vote_39 : decode cX10_vote 39 = .ok (.getfield 26, 3) := by decide +kernel
theorem dX10_vote_42 : decode cX10_vote 42 = .ok (.getfield 82, 3) := by decide +kernel
theorem dX10_vote_45 : decode cX10_vote 45 = .ok (.iload_n 2, 1) := by decide +kernel
theorem dX10_vote_46 : decode cX10_vote 46 = .ok (.invokevirtual 86, 3) := by decide +kernel
theorem dX10_vote_49 : decode cX10_vote 49 = .ok (.istore_n 3, 1) := by decide +kernel
theorem dX10_vote_50 : decode cX10_vote 50 = .ok (.aload_n 0, 1) := by decide +kernel
theorem dX10_vote_51 : decode cX10_vote 51 = .ok (.getfield 26, 3) := by decide +kernel
theorem dX10_vote_54 : decode cX10_vote 54 = .ok (.iconst 0, 1) := by decide +kernel
theorem dX10_vote_55 : decode cX10_vote 55 = .ok (.putfield 59, 3) := by decide +kernel
theorem dX10_vote_58 : decode cX10_vote 58 = .ok (.iload_n 3, 1) := by decide +kernel
theorem dX10_vote_59 : decode cX10_vote 59 = .ok (.ifCond .eq 5, 3) := by decide +kernel
theorem dX10_vote_62 : decode cX10_vote 62 = .ok (.iload_n 3, 1) := by decide +kernel
theorem dX10_vote_63 : decode cX10_vote 63 = .ok (.ireturn, 1) := by decide +kernel
theorem dX10_vote_64 : decode cX10_vote 64 = .ok (.aload_n 0, 1) := by decide +kernel
theorem dX10_vote_65 : decode cX10_vote 65 = .ok (.getfield 10, 3) := by decide +kernel
theorem dX10_vote_68 : decode cX10_vote 68 = .ok (.iload_n 1, 1) := by decide +kernel
theorem dX10_vote_69 : decode cX10_vote 69 = .ok (.invokevirtual 90, 3) := by decide +kernel
theorem dX10_vote_72 : decode cX10_vote 72 = .ok (.ifCond .ne 6, 3) := by decide +kernel
theorem dX10_vote_75 : decode cX10_vote 75 = .ok (.bipush (-2), 2) := by decide +kernel
theorem dX10_vote_77 : decode cX10_vote 77 = .ok (.ireturn, 1) := by decide +kernel
theorem dX10_vote_78 : decode cX10_vote 78 = .ok (.aload_n 0, 1) := by decide +kernel
theorem dX10_vote_79 : decode cX10_vote 79 = .ok (.getfield 19, 3) := by decide +kernel
theorem dX10_vote_82 : decode cX10_vote 82 = .ok (.getfield 93, 3) := by decide +kernel
theorem dX10_vote_85 : decode cX10_vote 85 = .ok (.istore 4, 2) := by decide +kernel
theorem dX10_vote_87 : decode cX10_vote 87 = .ok (.aload_n 0, 1) := by decide +kernel
theorem dX10_vote_88 : decode cX10_vote 88 = .ok (.iconst 1, 1) := by decide +kernel
theorem dX10_vote_89 : decode cX10_vote 89 = .ok (.iload_n 1, 1) := by decide +kernel
theorem dX10_vote_90 : decode cX10_vote 90 = .ok (.iload 4, 2) := by decide +kernel
theorem dX10_vote_92 : decode cX10_vote 92 = .ok (.aload_n 0, 1) := by decide +kernel
theorem dX10_vote_93 : decode cX10_vote 93 = .ok (.getfield 33, 3) := by decide +kernel
theorem dX10_vote_96 : decode cX10_vote 96 = .ok (.invokevirtual 96, 3) := by decide +kernel
theorem dX10_vote_99 : decode cX10_vote 99 = .ok (.invokevirtual 65, 3) := by decide +kernel
theorem dX10_vote_102 : decode cX10_vote 102 = .ok (.ifCond .eq 8, 3) := by decide +kernel
theorem dX10_vote_105 : decode cX10_vote 105 = .ok (.iload 4, 2) := by decide +kernel
theorem dX10_vote_107 : decode cX10_vote 107 = .ok (.goto 4, 3) := by decide +kernel
theorem dX10_vote_110 : decode cX10_vote 110 = .ok (.iconst (-1), 1) := by decide +kernel
theorem dX10_vote_111 : decode cX10_vote 111 = .ok (.ireturn, 1) := by decide +kernel
theorem dX10_pay_0 : decode cX10_pay 0 = .ok (.aload_n 0, 1) := by decide +kernel
theorem dX10_pay_1 : decode cX10_pay 1 = .ok (.iconst 2, 1) := by decide +kernel
theorem dX10_pay_2 : decode cX10_pay 2 = .ok (.iload_n 1, 1) := by decide +kernel
theorem dX10_pay_3 : decode cX10_pay 3 = .ok (.iload_n 2, 1) := by decide +kernel
theorem dX10_pay_4 : decode cX10_pay 4 = .ok (.aconst_null, 1) := by decide +kernel
theorem dX10_pay_5 : decode cX10_pay 5 = .ok (.invokevirtual 65, 3) := by decide +kernel
theorem dX10_pay_8 : decode cX10_pay 8 = .ok (.ireturn, 1) := by decide +kernel
theorem dX10_lot_0 : decode cX10_lot 0 = .ok (.aload_n 0, 1) := by decide +kernel
theorem dX10_lot_1 : decode cX10_lot 1 = .ok (.iconst 3, 1) := by decide +kernel
theorem dX10_lot_2 : decode cX10_lot 2 = .ok (.iload_n 1, 1) := by decide +kernel
theorem dX10_lot_3 : decode cX10_lot 3 = .ok (.iconst 0, 1) := by decide +kernel
theorem dX10_lot_4 : decode cX10_lot 4 = .ok (.aconst_null, 1) := by decide +kernel
theorem dX10_lot_5 : decode cX10_lot 5 = .ok (.invokevirtual 65, 3) := by decide +kernel
theorem dX10_lot_8 : decode cX10_lot 8 = .ok (.ireturn, 1) := by decide +kernel
theorem dX10_bid_0 : decode cX10_bid 0 = .ok (.aload_n 0, 1) := by decide +kernel
theorem dX10_bid_1 : decode cX10_bid 1 = .ok (.iconst 4, 1) := by decide +kernel
theorem dX10_bid_2 : decode cX10_bid 2 = .ok (.iload_n 1, 1) := by decide +kernel
theorem dX10_bid_3 : decode cX10_bid 3 = .ok (.iload_n 2, 1) := by decide +kernel
theorem dX10_bid_4 : decode cX10_bid 4 = .ok (.aconst_null, 1) := by decide +kernel
theorem dX10_bid_5 : decode cX10_bid 5 = .ok (.invokevirtual 65, 3) := by decide +kernel
theorem dX10_bid_8 : decode cX10_bid 8 = .ok (.ireturn, 1) := by decide +kernel
theorem dX10_seen_0 : decode cX10_seen 0 = .ok (.aload_n 0, 1) := by decide +kernel
theorem dX10_seen_1 : decode cX10_seen 1 = .ok (.iconst 5, 1) := by decide +kernel
theorem dX10_seen_2 : decode cX10_seen 2 = .ok (.iload_n 1, 1) := by decide +kernel
theorem dX10_seen_3 : decode cX10_seen 3 = .ok (.iconst 0, 1) := by decide +kernel
theorem dX10_seen_4 : decode cX10_seen 4 = .ok (.aconst_null, 1) := by decide +kernel
theorem dX10_seen_5 : decode cX10_seen 5 = .ok (.invokevirtual 65, 3) := by decide +kernel
theorem dX10_seen_8 : decode cX10_seen 8 = .ok (.ireturn, 1) := by decide +kernel
theorem dX10_leave_0 : decode cX10_leave 0 = .ok (.aload_n 0, 1) := by decide +kernel
theorem dX10_leave_1 : decode cX10_leave 1 = .ok (.bipush 6, 2) := by decide +kernel
theorem dX10_leave_3 : decode cX10_leave 3 = .ok (.iload_n 1, 1) := by decide +kernel
theorem dX10_leave_4 : decode cX10_leave 4 = .ok (.iconst 0, 1) := by decide +kernel
theorem dX10_leave_5 : decode cX10_leave 5 = .ok (.aconst_null, 1) := by decide +kernel
theorem dX10_leave_6 : decode cX10_leave 6 = .ok (.invokevirtual 65, 3) := by decide +kernel
theorem dX10_leave_9 : decode cX10_leave 9 = .ok (.ireturn, 1) := by decide +kernel
theorem dX10_fail_0 : decode cX10_fail 0 = .ok (.aload_n 0, 1) := by decide +kernel
theorem dX10_fail_1 : decode cX10_fail 1 = .ok (.bipush 7, 2) := by decide +kernel
theorem dX10_fail_3 : decode cX10_fail 3 = .ok (.iload_n 1, 1) := by decide +kernel
theorem dX10_fail_4 : decode cX10_fail 4 = .ok (.iconst 0, 1) := by decide +kernel
theorem dX10_fail_5 : decode cX10_fail 5 = .ok (.aconst_null, 1) := by decide +kernel
theorem dX10_fail_6 : decode cX10_fail 6 = .ok (.invokevirtual 65, 3) := by decide +kernel
theorem dX10_fail_9 : decode cX10_fail 9 = .ok (.ireturn, 1) := by decide +kernel
theorem dX10_week_0 : decode cX10_week 0 = .ok (.aload_n 0, 1) := by decide +kernel
theorem dX10_week_1 : decode cX10_week 1 = .ok (.bipush 8, 2) := by decide +kernel
theorem dX10_week_3 : decode cX10_week 3 = .ok (.iload_n 1, 1) := by decide +kernel
theorem dX10_week_4 : decode cX10_week 4 = .ok (.iconst 0, 1) := by decide +kernel
theorem dX10_week_5 : decode cX10_week 5 = .ok (.aconst_null, 1) := by decide +kernel
theorem dX10_week_6 : decode cX10_week 6 = .ok (.invokevirtual 65, 3) := by decide +kernel
theorem dX10_week_9 : decode cX10_week 9 = .ok (.ifCond .eq 13, 3) := by decide +kernel
theorem dX10_week_12 : decode cX10_week 12 = .ok (.aload_n 0, 1) := by decide +kernel
theorem dX10_week_13 : decode cX10_week 13 = .ok (.getfield 10, 3) := by decide +kernel
theorem dX10_week_16 : decode cX10_week 16 = .ok (.getfield 100, 3) := by decide +kernel
theorem dX10_week_19 : decode cX10_week 19 = .ok (.goto 4, 3) := by decide +kernel
theorem dX10_week_22 : decode cX10_week 22 = .ok (.iconst (-1), 1) := by decide +kernel
theorem dX10_week_23 : decode cX10_week 23 = .ok (.ireturn, 1) := by decide +kernel
theorem dX10_look_0 : decode cX10_look 0 = .ok (.aload_n 0, 1) := by decide +kernel
theorem dX10_look_1 : decode cX10_look 1 = .ok (.getfield 10, 3) := by decide +kernel
theorem dX10_look_4 : decode cX10_look 4 = .ok (.iload_n 1, 1) := by decide +kernel
theorem dX10_look_5 : decode cX10_look 5 = .ok (.invokevirtual 103, 3) := by decide +kernel
theorem dX10_look_8 : decode cX10_look 8 = .ok (.ifCond .eq 19, 3) := by decide +kernel
theorem dX10_look_11 : decode cX10_look 11 = .ok (.aload_n 0, 1) := by decide +kernel
theorem dX10_look_12 : decode cX10_look 12 = .ok (.getfield 10, 3) := by decide +kernel
theorem dX10_look_15 : decode cX10_look 15 = .ok (.getfield 106, 3) := by decide +kernel
theorem dX10_look_18 : decode cX10_look 18 = .ok (.iload_n 1, 1) := by decide +kernel
theorem dX10_look_19 : decode cX10_look 19 = .ok (.aaload, 1) := by decide +kernel
theorem dX10_look_20 : decode cX10_look 20 = .ok (.iload_n 2, 1) := by decide +kernel
theorem dX10_look_21 : decode cX10_look 21 = .ok (.invokevirtual 110, 3) := by decide +kernel
theorem dX10_look_24 : decode cX10_look 24 = .ok (.goto 4, 3) := by decide +kernel
theorem dX10_look_27 : decode cX10_look 27 = .ok (.iconst (-1), 1) := by decide +kernel
theorem dX10_look_28 : decode cX10_look 28 = .ok (.ireturn, 1) := by decide +kernel
theorem dX10_club_0 : decode cX10_club 0 = .ok (.iload_n 1, 1) := by decide +kernel
theorem dX10_club_1 : decode cX10_club 1 = .ok (.tableswitch 116 0 7 #[47, 55, 63, 71, 80, 90, 100, 108], 47) := by decide +kernel
theorem dX10_club_48 : decode cX10_club 48 = .ok (.aload_n 0, 1) := by decide +kernel
theorem dX10_club_49 : decode cX10_club 49 = .ok (.getfield 10, 3) := by decide +kernel
theorem dX10_club_52 : decode cX10_club 52 = .ok (.getfield 116, 3) := by decide +kernel
theorem dX10_club_55 : decode cX10_club 55 = .ok (.lreturn, 1) := by decide +kernel
theorem dX10_club_56 : decode cX10_club 56 = .ok (.aload_n 0, 1) := by decide +kernel
theorem dX10_club_57 : decode cX10_club 57 = .ok (.getfield 10, 3) := by decide +kernel
theorem dX10_club_60 : decode cX10_club 60 = .ok (.getfield 120, 3) := by decide +kernel
theorem dX10_club_63 : decode cX10_club 63 = .ok (.lreturn, 1) := by decide +kernel
theorem dX10_club_64 : decode cX10_club 64 = .ok (.aload_n 0, 1) := by decide +kernel
theorem dX10_club_65 : decode cX10_club 65 = .ok (.getfield 10, 3) := by decide +kernel
theorem dX10_club_68 : decode cX10_club 68 = .ok (.getfield 123, 3) := by decide +kernel
theorem dX10_club_71 : decode cX10_club 71 = .ok (.lreturn, 1) := by decide +kernel
theorem dX10_club_72 : decode cX10_club 72 = .ok (.aload_n 0, 1) := by decide +kernel
theorem dX10_club_73 : decode cX10_club 73 = .ok (.getfield 10, 3) := by decide +kernel
theorem dX10_club_76 : decode cX10_club 76 = .ok (.iconst 2, 1) := by decide +kernel
theorem dX10_club_77 : decode cX10_club 77 = .ok (.invokevirtual 126, 3) := by decide +kernel
theorem dX10_club_80 : decode cX10_club 80 = .ok (.lreturn, 1) := by decide +kernel
theorem dX10_club_81 : decode cX10_club 81 = .ok (.aload_n 0, 1) := by decide +kernel
theorem dX10_club_82 : decode cX10_club 82 = .ok (.getfield 10, 3) := by decide +kernel
theorem dX10_club_85 : decode cX10_club 85 = .ok (.bipush 6, 2) := by decide +kernel
theorem dX10_club_87 : decode cX10_club 87 = .ok (.invokevirtual 126, 3) := by decide +kernel
theorem dX10_club_90 : decode cX10_club 90 = .ok (.lreturn, 1) := by decide +kernel
theorem dX10_club_91 : decode cX10_club 91 = .ok (.aload_n 0, 1) := by decide +kernel
theorem dX10_club_92 : decode cX10_club 92 = .ok (.getfield 10, 3) := by decide +kernel
theorem dX10_club_95 : decode cX10_club 95 = .ok (.bipush 10, 2) := by decide +kernel
theorem dX10_club_97 : decode cX10_club 97 = .ok (.invokevirtual 126, 3) := by decide +kernel
theorem dX10_club_100 : decode cX10_club 100 = .ok (.lreturn, 1) := by decide +kernel
theorem dX10_club_101 : decode cX10_club 101 = .ok (.aload_n 0, 1) := by decide +kernel
theorem dX10_club_102 : decode cX10_club 102 = .ok (.getfield 10, 3) := by decide +kernel
theorem dX10_club_105 : decode cX10_club 105 = .ok (.getfield 130, 3) := by decide +kernel
theorem dX10_club_108 : decode cX10_club 108 = .ok (.lreturn, 1) := by decide +kernel
theorem dX10_club_109 : decode cX10_club 109 = .ok (.aload_n 0, 1) := by decide +kernel
theorem dX10_club_110 : decode cX10_club 110 = .ok (.getfield 10, 3) := by decide +kernel
theorem dX10_club_113 : decode cX10_club 113 = .ok (.getfield 133, 3) := by decide +kernel
theorem dX10_club_116 : decode cX10_club 116 = .ok (.lreturn, 1) := by decide +kernel
theorem dX10_club_117 : decode cX10_club 117 = .ok (.ldc2_w 136, 3) := by decide +kernel
theorem dX10_club_120 : decode cX10_club 120 = .ok (.lreturn, 1) := by decide +kernel
theorem dX10_rule_0 : decode cX10_rule 0 = .ok (.iload_n 1, 1) := by decide +kernel
theorem dX10_rule_1 : decode cX10_rule 1 = .ok (.invokestatic 138, 3) := by decide +kernel
theorem dX10_rule_4 : decode cX10_rule 4 = .ok (.istore_n 2, 1) := by decide +kernel
theorem dX10_rule_5 : decode cX10_rule 5 = .ok (.iload_n 2, 1) := by decide +kernel
theorem dX10_rule_6 : decode cX10_rule 6 = .ok (.iconst (-1), 1) := by decide +kernel
theorem dX10_rule_7 : decode cX10_rule 7 = .ok (.if_icmp .ne 7, 3) := by decide +kernel
theorem dX10_rule_10 : decode cX10_rule 10 = .ok (.iconst (-1), 1) := by decide +kernel
theorem dX10_rule_11 : decode cX10_rule 11 = .ok (.goto 15, 3) := by decide +kernel
theorem dX10_rule_14 : decode cX10_rule 14 = .ok (.aload_n 0, 1) := by decide +kernel
theorem dX10_rule_15 : decode cX10_rule 15 = .ok (.getfield 10, 3) := by decide +kernel
theorem dX10_rule_18 : decode cX10_rule 18 = .ok (.getfield 143, 3) := by decide +kernel
theorem dX10_rule_21 : decode cX10_rule 21 = .ok (.getfield 147, 3) := by decide +kernel
theorem dX10_rule_24 : decode cX10_rule 24 = .ok (.iload_n 2, 1) := by decide +kernel
theorem dX10_rule_25 : decode cX10_rule 25 = .ok (.iaload, 1) := by decide +kernel
theorem dX10_rule_26 : decode cX10_rule 26 = .ok (.ireturn, 1) := by decide +kernel
theorem dX10_end_0 : decode cX10_end 0 = .ok (.aload_n 0, 1) := by decide +kernel
theorem dX10_end_1 : decode cX10_end 1 = .ok (.getfield 47, 3) := by decide +kernel
theorem dX10_end_4 : decode cX10_end 4 = .ok (.aload_n 0, 1) := by decide +kernel
theorem dX10_end_5 : decode cX10_end 5 = .ok (.getfield 10, 3) := by decide +kernel
theorem dX10_end_8 : decode cX10_end 8 = .ok (.invokevirtual 150, 3) := by decide +kernel
theorem dX10_end_11 : decode cX10_end 11 = .ok (.ireturn, 1) := by decide +kernel
theorem dX10_beside_0 : decode cX10_beside 0 = .ok (.iload_n 2, 1) := by decide +kernel
theorem dX10_beside_1 : decode cX10_beside 1 = .ok (.bipush 10, 2) := by decide +kernel
theorem dX10_beside_3 : decode cX10_beside 3 = .ok (.if_icmp .lt 21, 3) := by decide +kernel
theorem dX10_beside_6 : decode cX10_beside 6 = .ok (.aload_n 0, 1) := by decide +kernel
theorem dX10_beside_7 : decode cX10_beside 7 = .ok (.getfield 10, 3) := by decide +kernel
theorem dX10_beside_10 : decode cX10_beside 10 = .ok (.iload_n 2, 1) := by decide +kernel
theorem dX10_beside_11 : decode cX10_beside 11 = .ok (.bipush 10, 2) := by decide +kernel
theorem dX10_beside_13 : decode cX10_beside 13 = .ok (.isub, 1) := by decide +kernel
theorem dX10_beside_14 : decode cX10_beside 14 = .ok (.invokevirtual 103, 3) := by decide +kernel
theorem dX10_beside_17 : decode cX10_beside 17 = .ok (.ifCond .eq 7, 3) := by decide +kernel
theorem dX10_beside_20 : decode cX10_beside 20 = .ok (.iconst 1, 1) := by decide +kernel
theorem dX10_beside_21 : decode cX10_beside 21 = .ok (.goto 4, 3) := by decide +kernel
theorem dX10_beside_24 : decode cX10_beside 24 = .ok (.iconst 0, 1) := by decide +kernel
theorem dX10_beside_25 : decode cX10_beside 25 = .ok (.istore_n 3, 1) := by decide +kernel
theorem dX10_beside_26 : decode cX10_beside 26 = .ok (.iload_n 1, 1) := by decide +kernel
theorem dX10_beside_27 : decode cX10_beside 27 = .ok (.ifCond .lt 27, 3) := by decide +kernel
theorem dX10_beside_30 : decode cX10_beside 30 = .ok (.iload_n 1, 1) := by decide +kernel
theorem dX10_beside_31 : decode cX10_beside 31 = .ok (.aload_n 0, 1) := by decide +kernel
theorem dX10_beside_32 : decode cX10_beside 32 = .ok (.getfield 19, 3) := by decide +kernel
theorem dX10_beside_35 : decode cX10_beside 35 = .ok (.getfield 93, 3) := by decide +kernel
theorem dX10_beside_38 : decode cX10_beside 38 = .ok (.if_icmp .ge 16, 3) := by decide +kernel
theorem dX10_beside_41 : decode cX10_beside 41 = .ok (.iload_n 3, 1) := by decide +kernel
theorem dX10_beside_42 : decode cX10_beside 42 = .ok (.ifCond .ne 16, 3) := by decide +kernel
theorem dX10_beside_45 : decode cX10_beside 45 = .ok (.iload_n 2, 1) := by decide +kernel
theorem dX10_beside_46 : decode cX10_beside 46 = .ok (.ifCond .lt 8, 3) := by decide +kernel
theorem dX10_beside_49 : decode cX10_beside 49 = .ok (.iload_n 2, 1) := by decide +kernel
theorem dX10_beside_50 : decode cX10_beside 50 = .ok (.iconst 2, 1) := by decide +kernel
theorem dX10_beside_51 : decode cX10_beside 51 = .ok (.if_icmp .le 7, 3) := by decide +kernel
theorem dX10_beside_54 : decode cX10_beside 54 = .ok (.ldc2_w 136, 3) := by decide +kernel
theorem dX10_beside_57 : decode cX10_beside 57 = .ok (.lreturn, 1) := by decide +kernel
theorem dX10_beside_58 : decode cX10_beside 58 = .ok (.aload_n 0, 1) := by decide +kernel
theorem dX10_beside_59 : decode cX10_beside 59 = .ok (.getfield 40, 3) := by decide +kernel
theorem dX10_beside_62 : decode cX10_beside 62 = .ok (.iload_n 1, 1) := by decide +kernel
theorem dX10_beside_63 : decode cX10_beside 63 = .ok (.aload_n 0, 1) := by decide +kernel
theorem dX10_beside_64 : decode cX10_beside 64 = .ok (.getfield 19, 3) := by decide +kernel
theorem dX10_beside_67 : decode cX10_beside 67 = .ok (.invokevirtual 154, 3) := by decide +kernel
theorem dX10_beside_70 : decode cX10_beside 70 = .ok (.astore 4, 2) := by decide +kernel
theorem dX10_beside_72 : decode cX10_beside 72 = .ok (.iload_n 2, 1) := by decide +kernel
theorem dX10_beside_73 : decode cX10_beside 73 = .ok (.ifCond .ne 9, 3) := by decide +kernel
theorem dX10_beside_76 : decode cX10_beside 76 = .ok (.aload 4, 2) := by decide +kernel
theorem dX10_beside_78 : decode cX10_beside 78 = .ok (.getfield 116, 3) := by decide +kernel
theorem dX10_beside_81 : decode cX10_beside 81 = .ok (.lreturn, 1) := by decide +kernel
theorem dX10_beside_82 : decode cX10_beside 82 = .ok (.iload_n 2, 1) := by decide +kernel
theorem dX10_beside_83 : decode cX10_beside 83 = .ok (.iconst 1, 1) := by decide +kernel
theorem dX10_beside_84 : decode cX10_beside 84 = .ok (.if_icmp .ne 10, 3) := by decide +kernel
theorem dX10_beside_87 : decode cX10_beside 87 = .ok (.aload 4, 2) := by decide +kernel
theorem dX10_beside_89 : decode cX10_beside 89 = .ok (.getfield 158, 3) := by decide +kernel
theorem dX10_beside_92 : decode cX10_beside 92 = .ok (.i2l, 1) := by decide +kernel
theorem dX10_beside_93 : decode cX10_beside 93 = .ok (.lreturn, 1) := by decide +kernel
theorem dX10_beside_94 : decode cX10_beside 94 = .ok (.iload_n 2, 1) := by decide +kernel
theorem dX10_beside_95 : decode cX10_beside 95 = .ok (.iconst 2, 1) := by decide +kernel
theorem dX10_beside_96 : decode cX10_beside 96 = .ok (.if_icmp .ne 14, 3) := by decide +kernel
theorem dX10_beside_99 : decode cX10_beside 99 = .ok (.aload_n 0, 1) := by decide +kernel
theorem dX10_beside_100 : decode cX10_beside 100 = .ok (.getfield 47, 3) := by decide +kernel
theorem dX10_beside_103 : decode cX10_beside 103 = .ok (.aload 4, 2) := by decide +kernel
theorem dX10_beside_105 : decode cX10_beside 105 = .ok (.invokevirtual 150, 3) := by decide +kernel
theorem dX10_beside_108 : decode cX10_beside 108 = .ok (.i2l, 1) := by decide +kernel
theorem dX10_beside_109 : decode cX10_beside 109 = .ok (.lreturn, 1) := by decide +kernel
theorem dX10_beside_110 : decode cX10_beside 110 = .ok (.aload 4, 2) := by decide +kernel
theorem dX10_beside_112 : decode cX10_beside 112 = .ok (.iload_n 2, 1) := by decide +kernel
theorem dX10_beside_113 : decode cX10_beside 113 = .ok (.bipush 10, 2) := by decide +kernel
theorem dX10_beside_115 : decode cX10_beside 115 = .ok (.isub, 1) := by decide +kernel
theorem dX10_beside_116 : decode cX10_beside 116 = .ok (.invokevirtual 103, 3) := by decide +kernel
theorem dX10_beside_119 : decode cX10_beside 119 = .ok (.ifCond .eq 20, 3) := by decide +kernel
theorem dX10_beside_122 : decode cX10_beside 122 = .ok (.aload 4, 2) := by decide +kernel
theorem dX10_beside_124 : decode cX10_beside 124 = .ok (.getfield 106, 3) := by decide +kernel
theorem dX10_beside_127 : decode cX10_beside 127 = .ok (.iload_n 2, 1) := by decide +kernel
theorem dX10_beside_128 : decode cX10_beside 128 = .ok (.bipush 10, 2) := by decide +kernel
theorem dX10_beside_130 : decode cX10_beside 130 = .ok (.isub, 1) := by decide +kernel
theorem dX10_beside_131 : decode cX10_beside 131 = .ok (.aaload, 1) := by decide +kernel
theorem dX10_beside_132 : decode cX10_beside 132 = .ok (.getfield 161, 3) := by decide +kernel
theorem dX10_beside_135 : decode cX10_beside 135 = .ok (.i2l, 1) := by decide +kernel
theorem dX10_beside_136 : decode cX10_beside 136 = .ok (.goto 6, 3) := by decide +kernel
theorem dX10_beside_139 : decode cX10_beside 139 = .ok (.ldc2_w 136, 3) := by decide +kernel
theorem dX10_beside_142 : decode cX10_beside 142 = .ok (.lreturn, 1) := by decide +kernel
theorem dX10_count_0 : decode cX10_count 0 = .ok (.iload_n 1, 1) := by decide +kernel
theorem dX10_count_1 : decode cX10_count 1 = .ok (.tableswitch 111 0 7 #[47, 55, 63, 71, 79, 87, 95, 103], 47) := by decide +kernel
theorem dX10_count_48 : decode cX10_count 48 = .ok (.aload_n 0, 1) := by decide +kernel
theorem dX10_count_49 : decode cX10_count 49 = .ok (.getfield 10, 3) := by decide +kernel
theorem dX10_count_52 : decode cX10_count 52 = .ok (.getfield 69, 3) := by decide +kernel
theorem dX10_count_55 : decode cX10_count 55 = .ok (.ireturn, 1) := by decide +kernel
theorem dX10_count_56 : decode cX10_count 56 = .ok (.aload_n 0, 1) := by decide +kernel
theorem dX10_count_57 : decode cX10_count 57 = .ok (.getfield 10, 3) := by decide +kernel
theorem dX10_count_60 : decode cX10_count 60 = .ok (.invokevirtual 164, 3) := by decide +kernel
theorem dX10_count_63 : decode cX10_count 63 = .ok (.ireturn, 1) := by decide +kernel
theorem dX10_count_64 : decode cX10_count 64 = .ok (.aload_n 0, 1) := by decide +kernel
theorem dX10_count_65 : decode cX10_count 65 = .ok (.getfield 10, 3) := by decide +kernel
theorem dX10_count_68 : decode cX10_count 68 = .ok (.getfield 100, 3) := by decide +kernel
theorem dX10_count_71 : decode cX10_count 71 = .ok (.ireturn, 1) := by decide +kernel
theorem dX10_count_72 : decode cX10_count 72 = .ok (.aload_n 0, 1) := by decide +kernel
theorem dX10_count_73 : decode cX10_count 73 = .ok (.getfield 10, 3) := by decide +kernel
theorem dX10_count_76 : decode cX10_count 76 = .ok (.getfield 158, 3) := by decide +kernel
theorem dX10_count_79 : decode cX10_count 79 = .ok (.ireturn, 1) := by decide +kernel
theorem dX10_count_80 : decode cX10_count 80 = .ok (.aload_n 0, 1) := by decide +kernel
theorem dX10_count_81 : decode cX10_count 81 = .ok (.getfield 10, 3) := by decide +kernel
theorem dX10_count_84 : decode cX10_count 84 = .ok (.invokevirtual 168, 3) := by decide +kernel
theorem dX10_count_87 : decode cX10_count 87 = .ok (.ireturn, 1) := by decide +kernel
theorem dX10_count_88 : decode cX10_count 88 = .ok (.aload_n 0, 1) := by decide +kernel
theorem dX10_count_89 : decode cX10_count 89 = .ok (.getfield 19, 3) := by decide +kernel
theorem dX10_count_92 : decode cX10_count 92 = .ok (.getfield 93, 3) := by decide +kernel
theorem dX10_count_95 : decode cX10_count 95 = .ok (.ireturn, 1) := by decide +kernel
theorem dX10_count_96 : decode cX10_count 96 = .ok (.aload_n 0, 1) := by decide +kernel
theorem dX10_count_97 : decode cX10_count 97 = .ok (.getfield 19, 3) := by decide +kernel
theorem dX10_count_100 : decode cX10_count 100 = .ok (.getfield 171, 3) := by decide +kernel
theorem dX10_count_103 : decode cX10_count 103 = .ok (.ireturn, 1) := by decide +kernel
theorem dX10_count_104 : decode cX10_count 104 = .ok (.aload_n 0, 1) := by decide +kernel
theorem dX10_count_105 : decode cX10_count 105 = .ok (.getfield 26, 3) := by decide +kernel
theorem dX10_count_108 : decode cX10_count 108 = .ok (.getfield 59, 3) := by decide +kernel
theorem dX10_count_111 : decode cX10_count 111 = .ok (.ireturn, 1) := by decide +kernel
theorem dX10_count_112 : decode cX10_count 112 = .ok (.iconst (-1), 1) := by decide +kernel
theorem dX10_count_113 : decode cX10_count 113 = .ok (.ireturn, 1) := by decide +kernel
theorem dX10_perform_0 : decode cX10_perform 0 = .ok (.aload_n 0, 1) := by decide +kernel
theorem dX10_perform_1 : decode cX10_perform 1 = .ok (.getfield 19, 3) := by decide +kernel
theorem dX10_perform_4 : decode cX10_perform 4 = .ok (.invokevirtual 72, 3) := by decide +kernel
theorem dX10_perform_7 : decode cX10_perform 7 = .ok (.ifCond .ne 18, 3) := by decide +kernel
theorem dX10_perform_10 : decode cX10_perform 10 = .ok (.aload_n 0, 1) := by decide +kernel
theorem dX10_perform_11 : decode cX10_perform 11 = .ok (.getfield 10, 3) := by decide +kernel
theorem dX10_perform_14 : decode cX10_perform 14 = .ok (.iload_n 1, 1) := by decide +kernel
theorem dX10_perform_15 : decode cX10_perform 15 = .ok (.iload_n 2, 1) := by decide +kernel
theorem dX10_perform_16 : decode cX10_perform 16 = .ok (.iload_n 3, 1) := by decide +kernel
theorem dX10_perform_17 : decode cX10_perform 17 = .ok (.aload 4, 2) := by decide +kernel
theorem dX10_perform_19 : decode cX10_perform 19 = .ok (.invokevirtual 172, 3) := by decide +kernel
theorem dX10_perform_22 : decode cX10_perform 22 = .ok (.ifCond .ne 5, 3) := by decide +kernel
theorem dX10_perform_25 : decode cX10_perform 25 = .ok (.iconst 0, 1) := by decide +kernel
theorem dX10_perform_26 : decode cX10_perform 26 = .ok (.ireturn, 1) := by decide +kernel
theorem dX10_perform_27 : decode cX10_perform 27 = .ok (.aload_n 0, 1) := by decide +kernel
theorem dX10_perform_28 : decode cX10_perform 28 = .ok (.getfield 19, 3) := by decide +kernel
theorem dX10_perform_31 : decode cX10_perform 31 = .ok (.new 63, 3) := by decide +kernel
theorem dX10_perform_34 : decode cX10_perform 34 = .ok (.dup, 1) := by decide +kernel
theorem dX10_perform_35 : decode cX10_perform 35 = .ok (.iload_n 1, 1) := by decide +kernel
theorem dX10_perform_36 : decode cX10_perform 36 = .ok (.iload_n 2, 1) := by decide +kernel
theorem dX10_perform_37 : decode cX10_perform 37 = .ok (.iload_n 3, 1) := by decide +kernel
theorem dX10_perform_38 : decode cX10_perform 38 = .ok (.aload 4, 2) := by decide +kernel
theorem dX10_perform_40 : decode cX10_perform 40 = .ok (.invokespecial 175, 3) := by decide +kernel
theorem dX10_perform_43 : decode cX10_perform 43 = .ok (.invokevirtual 178, 3) := by decide +kernel
theorem dX10_perform_46 : decode cX10_perform 46 = .ok (.iconst 1, 1) := by decide +kernel
theorem dX10_perform_47 : decode cX10_perform 47 = .ok (.ireturn, 1) := by decide +kernel
theorem dX11_init_0 : decode cX11_init 0 = .ok (.aload_n 0, 1) := by decide +kernel
theorem dX11_init_1 : decode cX11_init 1 = .ok (.invokespecial 1, 3) := by decide +kernel
theorem dX11_init_4 : decode cX11_init 4 = .ok (.aload_n 0, 1) := by decide +kernel
theorem dX11_init_5 : decode cX11_init 5 = .ok (.iconst 3, 1) := by decide +kernel
theorem dX11_init_6 : decode cX11_init 6 = .ok (.newarray .int, 2) := by decide +kernel
theorem dX11_init_8 : decode cX11_init 8 = .ok (.putfield 7, 3) := by decide +kernel
theorem dX11_init_11 : decode cX11_init 11 = .ok (.aload_n 0, 1) := by decide +kernel
theorem dX11_init_12 : decode cX11_init 12 = .ok (.iconst 3, 1) := by decide +kernel
theorem dX11_init_13 : decode cX11_init 13 = .ok (.newarray .int, 2) := by decide +kernel
theorem dX11_init_15 : decode cX11_init 15 = .ok (.putfield 13, 3) := by decide +kernel
theorem dX11_init_18 : decode cX11_init 18 = .ok (.aload_n 0, 1) := by decide +kernel
theorem dX11_init_19 : decode cX11_init 19 = .ok (.iconst 3, 1) := by decide +kernel
theorem dX11_init_20 : decode cX11_init 20 = .ok (.newarray .int, 2) := by decide +kernel
theorem dX11_init_22 : decode cX11_init 22 = .ok (.putfield 16, 3) := by decide +kernel
theorem dX11_init_25 : decode cX11_init 25 = .ok (.aload_n 0, 1) := by decide +kernel
theorem dX11_init_26 : decode cX11_init 26 = .ok (.iconst 3, 1) := by decide +kernel
theorem dX11_init_27 : decode cX11_init 27 = .ok (.newarray .int, 2) := by decide +kernel
theorem dX11_init_29 : decode cX11_init 29 = .ok (.putfield 19, 3) := by decide +kernel
theorem dX11_init_32 : decode cX11_init 32 = .ok (.aload_n 0, 1) := by decide +kernel
theorem dX11_init_33 : decode cX11_init 33 = .ok (.iconst 3, 1) := by decide +kernel
theorem dX11_init_34 : decode cX11_init 34 = .ok (.newarray .int, 2) := by decide +kernel
theorem dX11_init_36 : decode cX11_init 36 = .ok (.putfield 22, 3) := by decide +kernel
theorem dX11_init_39 : decode cX11_init 39 = .ok (.aload_n 0, 1) := by decide +kernel
theorem dX11_init_40 : decode cX11_init 40 = .ok (.iconst 3, 1) := by decide +kernel
theorem dX11_init_41 : decode cX11_init 41 = .ok (.newarray .long, 2) := by decide +kernel
theorem dX11_init_43 : decode cX11_init 43 = .ok (.putfield 25, 3) := by decide +kernel
theorem dX11_init_46 : decode cX11_init 46 = .ok (.aload_n 0, 1) := by decide +kernel
theorem dX11_init_47 : decode cX11_init 47 = .ok (.iconst 3, 1) := by decide +kernel
theorem dX11_init_48 : decode cX11_init 48 = .ok (.newarray .long, 2) := by decide +kernel
theorem dX11_init_50 : decode cX11_init 50 = .ok (.putfield 29, 3) := by decide +kernel
theorem dX11_init_53 : decode cX11_init 53 = .ok (.aload_n 0, 1) := by decide +kernel
theorem dX11_init_54 : decode cX11_init 54 = .ok (.iconst 3, 1) := by decide +kernel
theorem dX11_init_55 : decode cX11_init 55 = .ok (.newarray .long, 2) := by decide +kernel
theorem dX11_init_57 : decode cX11_init 57 = .ok (.putfield 32, 3) := by decide +kernel
theorem dX11_init_60 : decode cX11_init 60 = .ok (.aload_n 0, 1) := by decide +kernel
theorem dX11_init_61 : decode cX11_init 61 = .ok (.iconst 3, 1) := by decide +kernel
theorem dX11_init_62 : decode cX11_init 62 = .ok (.newarray .long, 2) := by decide +kernel
theorem dX11_init_64 : decode cX11_init 64 = .ok (.putfield 35, 3) := by decide +kernel
theorem dX11_init_67 : decode cX11_init 67 = .ok (.aload_n 0, 1) := by decide +kernel
theorem dX11_init_68 : decode cX11_init 68 = .ok (.iconst 3, 1) := by decide +kernel
theorem dX11_init_69 : decode cX11_init 69 = .ok (.newarray .long, 2) := by decide +kernel
theorem dX11_init_71 : decode cX11_init 71 = .ok (.putfield 38, 3) := by decide +kernel
theorem dX11_init_74 : decode cX11_init 74 = .ok (.aload_n 0, 1) := by decide +kernel
theorem dX11_init_75 : decode cX11_init 75 = .ok (.bipush 24, 2) := by decide +kernel
theorem dX11_init_77 : decode cX11_init 77 = .ok (.newarray .int, 2) := by decide +kernel
theorem dX11_init_79 : decode cX11_init 79 = .ok (.putfield 41, 3) := by decide +kernel
theorem dX11_init_82 : decode cX11_init 82 = .ok (.aload_n 0, 1) := by decide +kernel
theorem dX11_init_83 : decode cX11_init 83 = .ok (.bipush 24, 2) := by decide +kernel
theorem dX11_init_85 : decode cX11_init 85 = .ok (.newarray .int, 2) := by decide +kernel
theorem dX11_init_87 : decode cX11_init 87 = .ok (.putfield 44, 3) := by decide +kernel
theorem dX11_init_90 : decode cX11_init 90 = .ok (.aload_n 0, 1) := by decide +kernel
theorem dX11_init_91 : decode cX11_init 91 = .ok (.iconst 3, 1) := by decide +kernel
theorem dX11_init_92 : decode cX11_init 92 = .ok (.newarray .boolean, 2) := by decide +kernel
theorem dX11_init_94 : decode cX11_init 94 = .ok (.putfield 47, 3) := by decide +kernel
theorem dX11_init_97 : decode cX11_init 97 = .ok (.aload_n 0, 1) := by decide +kernel
theorem dX11_init_98 : decode cX11_init 98 = .ok (.bipush 36, 2) := by decide +kernel
theorem dX11_init_100 : decode cX11_init 100 = .ok (.newarray .int, 2) := by decide +kernel
theorem dX11_init_102 : decode cX11_init 102 = .ok (.putfield 51, 3) := by decide +kernel
theorem dX11_init_105 : decode cX11_init 105 = .ok (.aload_n 0, 1) := by decide +kernel
theorem dX11_init_106 : decode cX11_init 106 = .ok (.bipush 36, 2) := by decide +kernel
theorem dX11_init_108 : decode cX11_init 108 = .ok (.newarray .int, 2) := by decide +kernel
theorem dX11_init_110 : decode cX11_init 110 = .ok (.putfield 54, 3) := by decide +kernel
theorem dX11_init_113 : decode cX11_init 113 = .ok (.aload_n 0, 1) := by decide +kernel
theorem dX11_init_114 : decode cX11_init 114 = .ok (.bipush 36, 2) := by decide +kernel
theorem dX11_init_116 : decode cX11_init 116 = .ok (.newarray .int, 2) := by decide +kernel
theorem dX11_init_118 : decode cX11_init 118 = .ok (.putfield 57, 3) := by decide +kernel
theorem dX11_init_121 : decode cX11_init 121 = .ok (.aload_n 0, 1) := by decide +kernel
theorem dX11_init_122 : decode cX11_init 122 = .ok (.bipush 36, 2) := by decide +kernel
theorem dX11_init_124 : decode cX11_init 124 = .ok (.newarray .int, 2) := by decide +kernel
theorem dX11_init_126 : decode cX11_init 126 = .ok (.putfield 60, 3) := by decide +kernel
theorem dX11_init_129 : decode cX11_init 129 = .ok (.aload_n 0, 1) := by decide +kernel
theorem dX11_init_130 : decode cX11_init 130 = .ok (.bipush 36, 2) := by decide +kernel
theorem dX11_init_132 : decode cX11_init 132 = .ok (.newarray .int, 2) := by decide +kernel
theorem dX11_init_134 : decode cX11_init 134 = .ok (.putfield 63, 3) := by decide +kernel
theorem dX11_init_137 : decode cX11_init 137 = .ok (.aload_n 0, 1) := by decide +kernel
theorem dX11_init_138 : decode cX11_init 138 = .ok (.bipush 36, 2) := by decide +kernel
theorem dX11_init_140 : decode cX11_init 140 = .ok (.newarray .int, 2) := by decide +kernel
theorem dX11_init_142 : decode cX11_init 142 = .ok (.putfield 66, 3) := by decide +kernel
theorem dX11_init_145 : decode cX11_init 145 = .ok (.aload_n 0, 1) := by decide +kernel
theorem dX11_init_146 : decode cX11_init 146 = .ok (.bipush 36, 2) := by decide +kernel
theorem dX11_init_148 : decode cX11_init 148 = .ok (.newarray .int, 2) := by decide +kernel
theorem dX11_init_150 : decode cX11_init 150 = .ok (.putfield 69, 3) := by decide +kernel
theorem dX11_init_153 : decode cX11_init 153 = .ok (.aload_n 0, 1) := by decide +kernel
theorem dX11_init_154 : decode cX11_init 154 = .ok (.bipush 36, 2) := by decide +kernel
theorem dX11_init_156 : decode cX11_init 156 = .ok (.newarray .long, 2) := by decide +kernel
theorem dX11_init_158 : decode cX11_init 158 = .ok (.putfield 72, 3) := by decide +kernel
theorem dX11_init_161 : decode cX11_init 161 = .ok (.aload_n 0, 1) := by decide +kernel
theorem dX11_init_162 : decode cX11_init 162 = .ok (.bipush 36, 2) := by decide +kernel
theorem dX11_init_164 : decode cX11_init 164 = .ok (.newarray .long, 2) := by decide +kernel
theorem dX11_init_166 : decode cX11_init 166 = .ok (.putfield 75, 3) := by decide +kernel
theorem dX11_init_169 : decode cX11_init 169 = .ok (.aload_n 0, 1) := by decide +kernel
theorem dX11_init_170 : decode cX11_init 170 = .ok (.bipush 36, 2) := by decide +kernel
theorem dX11_init_172 : decode cX11_init 172 = .ok (.newarray .long, 2) := by decide +kernel
theorem dX11_init_174 : decode cX11_init 174 = .ok (.putfield 78, 3) := by decide +kernel
theorem dX11_init_177 : decode cX11_init 177 = .ok (.aload_n 0, 1) := by decide +kernel
theorem dX11_init_178 : decode cX11_init 178 = .ok (.bipush 36, 2) := by decide +kernel
theorem dX11_init_180 : decode cX11_init 180 = .ok (.newarray .long, 2) := by decide +kernel
theorem dX11_init_182 : decode cX11_init 182 = .ok (.putfield 81, 3) := by decide +kernel
theorem dX11_init_185 : decode cX11_init 185 = .ok (.aload_n 0, 1) := by decide +kernel
theorem dX11_init_186 : decode cX11_init 186 = .ok (.bipush 36, 2) := by decide +kernel
theorem dX11_init_188 : decode cX11_init 188 = .ok (.newarray .long, 2) := by decide +kernel
theorem dX11_init_190 : decode cX11_init 190 = .ok (.putfield 84, 3) := by decide +kernel
theorem dX11_init_193 : decode cX11_init 193 = .ok (.aload_n 0, 1) := by decide +kernel
theorem dX11_init_194 : decode cX11_init 194 = .ok (.bipush 36, 2) := by decide +kernel
theorem dX11_init_196 : decode cX11_init 196 = .ok (.newarray .long, 2) := by decide +kernel
theorem dX11_init_198 : decode cX11_init 198 = .ok (.putfield 87, 3) := by decide +kernel
theorem dX11_init_201 : decode cX11_init 201 = .ok (.aload_n 0, 1) := by decide +kernel
theorem dX11_init_202 : decode cX11_init 202 = .ok (.bipush 36, 2) := by decide +kernel
theorem dX11_init_204 : decode cX11_init 204 = .ok (.newarray .long, 2) := by decide +kernel
theorem dX11_init_206 : decode cX11_init 206 = .ok (.putfield 90, 3) := by decide +kernel
theorem dX11_init_209 : decode cX11_init 209 = .ok (.aload_n 0, 1) := by decide +kernel
theorem dX11_init_210 : decode cX11_init 210 = .ok (.bipush 36, 2) := by decide +kernel
theorem dX11_init_212 : decode cX11_init 212 = .ok (.newarray .long, 2) := by decide +kernel
theorem dX11_init_214 : decode cX11_init 214 = .ok (.putfield 93, 3) := by decide +kernel
theorem dX11_init_217 : decode cX11_init 217 = .ok (.aload_n 0, 1) := by decide +kernel
theorem dX11_init_218 : decode cX11_init 218 = .ok (.bipush 36, 2) := by decide +kernel
theorem dX11_init_220 : decode cX11_init 220 = .ok (.newarray .boolean, 2) := by decide +kernel
theorem dX11_init_222 : decode cX11_init 222 = .ok (.putfield 96, 3) := by decide +kernel
theorem dX11_init_225 : decode cX11_init 225 = .ok (.aload_n 0, 1) := by decide +kernel
theorem dX11_init_226 : decode cX11_init 226 = .ok (.bipush 36, 2) := by decide +kernel
theorem dX11_init_228 : decode cX11_init 228 = .ok (.newarray .boolean, 2) := by decide +kernel
theorem dX11_init_230 : decode cX11_init 230 = .ok (.putfield 99, 3) := by decide +kernel
theorem dX11_init_233 : decode cX11_init 233 = .ok (.aload_n 0, 1) := by decide +kernel
theorem dX11_init_234 : decode cX11_init 234 = .ok (.bipush 36, 2) := by decide +kernel
theorem dX11_init_236 : decode cX11_init 236 = .ok (.newarray .boolean, 2) := by decide +kernel
theorem dX11_init_238 : decode cX11_init 238 = .ok (.putfield 102, 3) := by decide +kernel
theorem dX11_init_241 : decode cX11_init 241 = .ok (.aload_n 0, 1) := by decide +kernel
theorem dX11_init_242 : decode cX11_init 242 = .ok (.sipush 400, 3) := by decide +kernel
theorem dX11_init_245 : decode cX11_init 245 = .ok (.newarray .int, 2) := by decide +kernel
theorem dX11_init_247 : decode cX11_init 247 = .ok (.putfield 105, 3) := by decide +kernel
theorem dX11_init_250 : decode cX11_init 250 = .ok (.aload_n 0, 1) := by decide +kernel
theorem dX11_init_251 : decode cX11_init 251 = .ok (.sipush 400, 3) := by decide +kernel
theorem dX11_init_254 : decode cX11_init 254 = .ok (.newarray .int, 2) := by decide +kernel
theorem dX11_init_256 : decode cX11_init 256 = .ok (.putfield 108, 3) := by decide +kernel
theorem dX11_init_259 : decode cX11_init 259 = .ok (.aload_n 0, 1) := by decide +kernel
theorem dX11_init_260 : decode cX11_init 260 = .ok (.sipush 400, 3) := by decide +kernel
theorem dX11_init_263 : decode cX11_init 263 = .ok (.newarray .int, 2) := by decide +kernel
theorem dX11_init_265 : decode cX11_init 265 = .ok (.putfield 111, 3) := by decide +kernel
theorem dX11_init_268 : decode cX11_init 268 = .ok (.aload_n 0, 1) := by decide +kernel
theorem dX11_init_269 : decode cX11_init 269 = .ok (.sipush 3200, 3) := by decide +kernel
theorem dX11_init_272 : decode cX11_init 272 = .ok (.newarray .int, 2) := by decide +kernel
theorem dX11_init_274 : decode cX11_init 274 = .ok (.putfield 114, 3) := by decide +kernel
theorem dX11_init_277 : decode cX11_init 277 = .ok (.aload_n 0, 1) := by decide +kernel
theorem dX11_init_278 : decode cX11_init 278 = .ok (.sipush 400, 3) := by decide +kernel
theorem dX11_init_281 : decode cX11_init 281 = .ok (.newarray .int, 2) := by decide +kernel
theorem dX11_init_283 : decode cX11_init 283 = .ok (.putfield 117, 3) := by decide +kernel
theorem dX11_init_286 : decode cX11_init 286 = .ok (.aload_n 0, 1) := by decide +kernel
theorem dX11_init_287 : decode cX11_init 287 = .ok (.bipush 60, 2) := by decide +kernel
theorem dX11_init_289 : decode cX11_init 289 = .ok (.newarray .byte, 2) := by decide +kernel
theorem dX11_init_291 : decode cX11_init 291 = .ok (.putfield 120, 3) := by decide +kernel
theorem dX11_init_294 : decode cX11_init 294 = .ok (.aload_n 0, 1) := by decide +kernel
theorem dX11_init_295 : decode cX11_init 295 = .ok (.bipush 8, 2) := by decide +kernel
theorem dX11_init_297 : decode cX11_init 297 = .ok (.newarray .int, 2) := by decide +kernel
theorem dX11_init_299 : decode cX11_init 299 = .ok (.putfield 124, 3) := by decide +kernel
theorem dX11_init_302 : decode cX11_init 302 = .ok (.aload_n 0, 1) := by decide +kernel
theorem dX11_init_303 : decode cX11_init 303 = .ok (.iconst 0, 1) := by decide +kernel
theorem dX11_init_304 : decode cX11_init 304 = .ok (.invokevirtual 127, 3) := by decide +kernel
theorem dX11_init_307 : decode cX11_init 307 = .ok (.return_, 1) := by decide +kernel
theorem dX11_firsts_0 : decode cX11_firsts 0 = .ok (.aload_n 0, 1) := by decide +kernel
theorem dX11_firsts_1 : decode cX11_firsts 1 = .ok (.iload_n 1, 1) := by decide +kernel
theorem dX11_firsts_2 : decode cX11_firsts 2 = .ok (.iconst 0, 1) := by decide +kernel
theorem dX11_firsts_3 : decode cX11_firsts 3 = .ok (.iadd, 1) := by decide +kernel
theorem dX11_firsts_4 : decode cX11_firsts 4 = .ok (.bipush 20, 2) := by decide +kernel
theorem dX11_firsts_6 : decode cX11_firsts 6 = .ok (.iastore, 1) := by decide +kernel
theorem dX11_firsts_7 : decode cX11_firsts 7 = .ok (.aload_n 0, 1) := by decide +kernel
theorem dX11_firsts_8 : decode cX11_firsts 8 = .ok (.iload_n 1, 1) := by decide +kernel
theorem dX11_firsts_9 : decode cX11_firsts 9 = .ok (.iconst 1, 1) := by decide +kernel
theorem dX11_firsts_10 : decode cX11_firsts 10 = .ok (.iadd, 1) := by decide +kernel
theorem dX11_firsts_11 : decode cX11_firsts 11 = .ok (.bipush 10, 2) := by decide +kernel
theorem dX11_firsts_13 : decode cX11_firsts 13 = .ok (.iastore, 1) := by decide +kernel
theorem dX11_firsts_14 : decode cX11_firsts 14 = .ok (.aload_n 0, 1) := by decide +kernel
theorem dX11_firsts_15 : decode cX11_firsts 15 = .ok (.iload_n 1, 1) := by decide +kernel
theorem dX11_firsts_16 : decode cX11_firsts 16 = .ok (.iconst 2, 1) := by decide +kernel
theorem dX11_firsts_17 : decode cX11_firsts 17 = .ok (.iadd, 1) := by decide +kernel
theorem dX11_firsts_18 : decode cX11_firsts 18 = .ok (.iconst 5, 1) := by decide +kernel
theorem dX11_firsts_19 : decode cX11_firsts 19 = .ok (.iastore, 1) := by decide +kernel
theorem dX11_firsts_20 : decode cX11_firsts 20 = .ok (.aload_n 0, 1) := by decide +kernel
theorem dX11_firsts_21 : decode cX11_firsts 21 = .ok (.iload_n 1, 1) := by decide +kernel
theorem dX11_firsts_22 : decode cX11_firsts 22 = .ok (.iconst 3, 1) := by decide +kernel
theorem dX11_firsts_23 : decode cX11_firsts 23 = .ok (.iadd, 1) := by decide +kernel
theorem dX11_firsts_24 : decode cX11_firsts 24 = .ok (.sipush 600, 3) := by decide +kernel
theorem dX11_firsts_27 : decode cX11_firsts 27 = .ok (.iastore, 1) := by decide +kernel
theorem dX11_firsts_28 : decode cX11_firsts 28 = .ok (.aload_n 0, 1) := by decide +kernel
theorem dX11_firsts_29 : decode cX11_firsts 29 = .ok (.iload_n 1, 1) := by decide +kernel
theorem dX11_firsts_30 : decode cX11_firsts 30 = .ok (.iconst 4, 1) := by decide +kernel
theorem dX11_firsts_31 : decode cX11_firsts 31 = .ok (.iadd, 1) := by decide +kernel
theorem dX11_firsts_32 : decode cX11_firsts 32 = .ok (.iconst 3, 1) := by decide +kernel
theorem dX11_firsts_33 : decode cX11_firsts 33 = .ok (.iastore, 1) := by decide +kernel
theorem dX11_firsts_34 : decode cX11_firsts 34 = .ok (.aload_n 0, 1) := by decide +kernel
theorem dX11_firsts_35 : decode cX11_firsts 35 = .ok (.iload_n 1, 1) := by decide +kernel
theorem dX11_firsts_36 : decode cX11_firsts 36 = .ok (.iconst 5, 1) := by decide +kernel
theorem dX11_firsts_37 : decode cX11_firsts 37 = .ok (.iadd, 1) := by decide +kernel
theorem dX11_firsts_38 : decode cX11_firsts 38 = .ok (.iconst 0, 1) := by decide +kernel
theorem dX11_firsts_39 : decode cX11_firsts 39 = .ok (.iastore, 1) := by decide +kernel
theorem dX11_firsts_40 : decode cX11_firsts 40 = .ok (.aload_n 0, 1) := by decide +kernel
theorem dX11_firsts_41 : decode cX11_firsts 41 = .ok (.iload_n 1, 1) := by decide +kernel
theorem dX11_firsts_42 : decode cX11_firsts 42 = .ok (.bipush 6, 2) := by decide +kernel
theorem dX11_firsts_44 : decode cX11_firsts 44 = .ok (.iadd, 1) := by decide +kernel
theorem dX11_firsts_45 : decode cX11_firsts 45 = .ok (.bipush 80, 2) := by decide +kernel
theorem dX11_firsts_47 : decode cX11_firsts 47 = .ok (.iastore, 1) := by decide +kernel
theorem dX11_firsts_48 : decode cX11_firsts 48 = .ok (.aload_n 0, 1) := by decide +kernel
theorem dX11_firsts_49 : decode cX11_firsts 49 = .ok (.iload_n 1, 1) := by decide +kernel
theorem dX11_firsts_50 : decode cX11_firsts 50 = .ok (.bipush 7, 2) := by decide +kernel
theorem dX11_firsts_52 : decode cX11_firsts 52 = .ok (.iadd, 1) := by decide +kernel
theorem dX11_firsts_53 : decode cX11_firsts 53 = .ok (.iconst 4, 1) := by decide +kernel
theorem dX11_firsts_54 : decode cX11_firsts 54 = .ok (.iastore, 1) := by decide +kernel
theorem dX11_firsts_55 : decode cX11_firsts 55 = .ok (.return_, 1) := by decide +kernel
theorem dX11_begins_0 : decode cX11_begins 0 = .ok (.aload_n 0, 1) := by decide +kernel
theorem dX11_begins_1 : decode cX11_begins 1 = .ok (.getfield 7, 3) := by decide +kernel
theorem dX11_begins_4 : decode cX11_begins 4 = .ok (.iload_n 1, 1) := by decide +kernel
theorem dX11_begins_5 : decode cX11_begins 5 = .ok (.iconst 0, 1) := by decide +kernel
theorem dX11_begins_6 : decode cX11_begins 6 = .ok (.iastore, 1) := by decide +kernel
theorem dX11_begins_7 : decode cX11_begins 7 = .ok (.aload_n 0, 1) := by decide +kernel
theorem dX11_begins_8 : decode cX11_begins 8 = .ok (.getfield 13, 3) := by decide +kernel
theorem dX11_begins_11 : decode cX11_begins 11 = .ok (.iload_n 1, 1) := by decide +kernel
theorem dX11_begins_12 : decode cX11_begins 12 = .ok (.iconst 0, 1) := by decide +kernel
theorem dX11_begins_13 : decode cX11_begins 13 = .ok (.iastore, 1) := by decide +kernel
theorem dX11_begins_14 : decode cX11_begins 14 = .ok (.aload_n 0, 1) := by decide +kernel
theorem dX11_begins_15 : decode cX11_begins 15 = .ok (.getfield 16, 3) := by decide +kernel
theorem dX11_begins_18 : decode cX11_begins 18 = .ok (.iload_n 1, 1) := by decide +kernel
theorem dX11_begins_19 : decode cX11_begins 19 = .ok (.iconst 0, 1) := by decide +kernel
theorem dX11_begins_20 : decode cX11_begins 20 = .ok (.iastore, 1) := by decide +kernel
theorem dX11_begins_21 : decode cX11_begins 21 = .ok (.aload_n 0, 1) := by decide +kernel
theorem dX11_begins_22 : decode cX11_begins 22 = .ok (.getfield 19, 3) := by decide +kernel
theorem dX11_begins_25 : decode cX11_begins 25 = .ok (.iload_n 1, 1) := by decide +kernel
theorem dX11_begins_26 : decode cX11_begins 26 = .ok (.iconst 0, 1) := by decide +kernel
theorem dX11_begins_27 : decode cX11_begins 27 = .ok (.iastore, 1) := by decide +kernel
theorem dX11_begins_28 : decode cX11_begins 28 = .ok (.aload_n 0, 1) := by decide +kernel
theorem dX11_begins_29 : decode cX11_begins 29 = .ok (.getfield 22, 3) := by decide +kernel
theorem dX11_begins_32 : decode cX11_begins 32 = .ok (.iload_n 1, 1) := by decide +kernel
theorem dX11_begins_33 : decode cX11_begins 33 = .ok (.iconst 0, 1) := by decide +kernel
theorem dX11_begins_34 : decode cX11_begins 34 = .ok (.iastore, 1) := by decide +kernel
theorem dX11_begins_35 : decode cX11_begins 35 = .ok (.aload_n 0, 1) := by decide +kernel
theorem dX11_begins_36 : decode cX11_begins 36 = .ok (.getfield 25, 3) := by decide +kernel
theorem dX11_begins_39 : decode cX11_begins 39 = .ok (.iload_n 1, 1) := by decide +kernel
theorem dX11_begins_40 : decode cX11_begins 40 = .ok (.lconst 0, 1) := by decide +kernel
theorem dX11_begins_41 : decode cX11_begins 41 = .ok (.lastore, 1) := by decide +kernel
theorem dX11_begins_42 : decode cX11_begins 42 = .ok (.aload_n 0, 1) := by decide +kernel
theorem dX11_begins_43 : decode cX11_begins 43 = .ok (.getfield 29, 3) := by decide +kernel
theorem dX11_begins_46 : decode cX11_begins 46 = .ok (.iload_n 1, 1) := by decide +kernel
theorem dX11_begins_47 : decode cX11_begins 47 = .ok (.lconst 0, 1) := by decide +kernel
theorem dX11_begins_48 : decode cX11_begins 48 = .ok (.lastore, 1) := by decide +kernel
theorem dX11_begins_49 : decode cX11_begins 49 = .ok (.aload_n 0, 1) := by decide +kernel
theorem dX11_begins_50 : decode cX11_begins 50 = .ok (.getfield 32, 3) := by decide +kernel
theorem dX11_begins_53 : decode cX11_begins 53 = .ok (.iload_n 1, 1) := by decide +kernel
theorem dX11_begins_54 : decode cX11_begins 54 = .ok (.lconst 0, 1) := by decide +kernel
theorem dX11_begins_55 : decode cX11_begins 55 = .ok (.lastore, 1) := by decide +kernel
theorem dX11_begins_56 : decode cX11_begins 56 = .ok (.aload_n 0, 1) := by decide +kernel
theorem dX11_begins_57 : decode cX11_begins 57 = .ok (.getfield 35, 3) := by decide +kernel
theorem dX11_begins_60 : decode cX11_begins 60 = .ok (.iload_n 1, 1) := by decide +kernel
theorem dX11_begins_61 : decode cX11_begins 61 = .ok (.lconst 0, 1) := by decide +kernel
theorem dX11_begins_62 : decode cX11_begins 62 = .ok (.lastore, 1) := by decide +kernel
theorem dX11_begins_63 : decode cX11_begins 63 = .ok (.aload_n 0, 1) := by decide +kernel
theorem dX11_begins_64 : decode cX11_begins 64 = .ok (.getfield 38, 3) := by decide +kernel
theorem dX11_begins_67 : decode cX11_begins 67 = .ok (.iload_n 1, 1) := by decide +kernel
theorem dX11_begins_68 : decode cX11_begins 68 = .ok (.lconst 0, 1) := by decide +kernel
theorem dX11_begins_69 : decode cX11_begins 69 = .ok (.lastore, 1) := by decide +kernel
theorem dX11_begins_70 : decode cX11_begins 70 = .ok (.aload_n 0, 1) := by decide +kernel
theorem dX11_begins_71 : decode cX11_begins 71 = .ok (.getfield 47, 3) := by decide +kernel
theorem dX11_begins_74 : decode cX11_begins 74 = .ok (.iload_n 1, 1) := by decide +kernel
theorem dX11_begins_75 : decode cX11_begins 75 = .ok (.iconst 0, 1) := by decide +kernel
theorem dX11_begins_76 : decode cX11_begins 76 = .ok (.bastore, 1) := by decide +kernel
theorem dX11_begins_77 : decode cX11_begins 77 = .ok (.aload_n 0, 1) := by decide +kernel
theorem dX11_begins_78 : decode cX11_begins 78 = .ok (.getfield 41, 3) := by decide +kernel
theorem dX11_begins_81 : decode cX11_begins 81 = .ok (.bipush 8, 2) := by decide +kernel
theorem dX11_begins_83 : decode cX11_begins 83 = .ok (.iload_n 1, 1) := by decide +kernel
theorem dX11_begins_84 : decode cX11_begins 84 = .ok (.imul, 1) := by decide +kernel
theorem dX11_begins_85 : decode cX11_begins 85 = .ok (.invokestatic 131, 3) := by decide +kernel
theorem dX11_begins_88 : decode cX11_begins 88 = .ok (.aload_n 0, 1) := by decide +kernel
theorem dX11_begins_89 : decode cX11_begins 89 = .ok (.getfield 44, 3) := by decide +kernel
theorem dX11_begins_92 : decode cX11_begins 92 = .ok (.bipush 8, 2) := by decide +kernel
theorem dX11_begins_94 : decode cX11_begins 94 = .ok (.iload_n 1, 1) := by decide +kernel
theorem dX11_begins_95 : decode cX11_begins 95 = .ok (.imul, 1) := by decide +kernel
theorem dX11_begins_96 : decode cX11_begins 96 = .ok (.invokestatic 131, 3) := by decide +kernel
theorem dX11_begins_99 : decode cX11_begins 99 = .ok (.return_, 1) := by decide +kernel
theorem dX11_copies_0 : decode cX11_copies 0 = .ok (.aload_n 0, 1) := by decide +kernel
theorem dX11_copies_1 : decode cX11_copies 1 = .ok (.getfield 7, 3) := by decide +kernel
theorem dX11_copies_4 : decode cX11_copies 4 = .ok (.iload_n 2, 1) := by decide +kernel
theorem dX11_copies_5 : decode cX11_copies 5 = .ok (.aload_n 0, 1) := by decide +kernel
theorem dX11_copies_6 : decode cX11_copies 6 = .ok (.getfield 7, 3) := by decide +kernel
theorem dX11_copies_9 : decode cX11_copies 9 = .ok (.iload_n 1, 1) := by decide +kernel
theorem dX11_copies_10 : decode cX11_copies 10 = .ok (.iaload, 1) := by decide +kernel
theorem dX11_copies_11 : decode cX11_copies 11 = .ok (.iastore, 1) := by decide +kernel
theorem dX11_copies_12 : decode cX11_copies 12 = .ok (.aload_n 0, 1) := by decide +kernel
theorem dX11_copies_13 : decode cX11_copies 13 = .ok (.getfield 13, 3) := by decide +kernel
theorem dX11_copies_16 : decode cX11_copies 16 = .ok (.iload_n 2, 1) := by decide +kernel
theorem dX11_copies_17 : decode cX11_copies 17 = .ok (.aload_n 0, 1) := by decide +kernel
theorem dX11_copies_18 : decode cX11_copies 18 = .ok (.getfield 13, 3) := by decide +kernel
theorem dX11_copies_21 : decode cX11_copies 21 = .ok (.iload_n 1, 1) := by decide +kernel
theorem dX11_copies_22 : decode cX11_copies 22 = .ok (.iaload, 1) := by decide +kernel
theorem dX11_copies_23 : decode cX11_copies 23 = .ok (.iastore, 1) := by decide +kernel
theorem dX11_copies_24 : decode cX11_copies 24 = .ok (.aload_n 0, 1) := by decide +kernel
theorem dX11_copies_25 : decode cX11_copies 25 = .ok (.getfield 16, 3) := by decide +kernel
theorem dX11_copies_28 : decode cX11_copies 28 = .ok (.iload_n 2, 1) := by decide +kernel
theorem dX11_copies_29 : decode cX11_copies 29 = .ok (.aload_n 0, 1) := by decide +kernel
theorem dX11_copies_30 : decode cX11_copies 30 = .ok (.getfield 16, 3) := by decide +kernel
theorem dX11_copies_33 : decode cX11_copies 33 = .ok (.iload_n 1, 1) := by decide +kernel
theorem dX11_copies_34 : decode cX11_copies 34 = .ok (.iaload, 1) := by decide +kernel
theorem dX11_copies_35 : decode cX11_copies 35 = .ok (.iastore, 1) := by decide +kernel
theorem dX11_copies_36 : decode cX11_copies 36 = .ok (.aload_n 0, 1) := by decide +kernel
theorem dX11_copies_37 : decode cX11_copies 37 = .ok (.getfield 19, 3) := by decide +kernel
theorem dX11_copies_40 : decode cX11_copies 40 = .ok (.iload_n 2, 1) := by decide +kernel
theorem dX11_copies_41 : decode cX11_copies 41 = .ok (.aload_n 0, 1) := by decide +kernel
theorem dX11_copies_42 : decode cX11_copies 42 = .ok (.getfield 19, 3) := by decide +kernel
theorem dX11_copies_45 : decode cX11_copies 45 = .ok (.iload_n 1, 1) := by decide +kernel
theorem dX11_copies_46 : decode cX11_copies 46 = .ok (.iaload, 1) := by decide +kernel
theorem dX11_copies_47 : decode cX11_copies 47 = .ok (.iastore, 1) := by decide +kernel
theorem dX11_copies_48 : decode cX11_copies 48 = .ok (.aload_n 0, 1) := by decide +kernel
theorem dX11_copies_49 : decode cX11_copies 49 = .ok (.getfield 22, 3) := by decide +kernel
theorem dX11_copies_52 : decode cX11_copies 52 = .ok (.iload_n 2, 1) := by decide +kernel
theorem dX11_copies_53 : decode cX11_copies 53 = .ok (.aload_n 0, 1) := by decide +kernel
theorem dX11_copies_54 : decode cX11_copies 54 = .ok (.getfield 22, 3) := by decide +kernel
theorem dX11_copies_57 : decode cX11_copies 57 = .ok (.iload_n 1, 1) := by decide +kernel
theorem dX11_copies_58 : decode cX11_copies 58 = .ok (.iaload, 1) := by decide +kernel
theorem dX11_copies_59 : decode cX11_copies 59 = .ok (.iastore, 1) := by decide +kernel
theorem dX11_copies_60 : decode cX11_copies 60 = .ok (.aload_n 0, 1) := by decide +kernel
theorem dX11_copies_61 : decode cX11_copies 61 = .ok (.getfield 25, 3) := by decide +kernel
theorem dX11_copies_64 : decode cX11_copies 64 = .ok (.iload_n 2, 1) := by decide +kernel
theorem dX11_copies_65 : decode cX11_copies 65 = .ok (.aload_n 0, 1) := by decide +kernel
theorem dX11_copies_66 : decode cX11_copies 66 = .ok (.getfield 25, 3) := by decide +kernel
theorem dX11_copies_69 : decode cX11_copies 69 = .ok (.iload_n 1, 1) := by decide +kernel
theorem dX11_copies_70 : decode cX11_copies 70 = .ok (.laload, 1) := by decide +kernel
theorem dX11_copies_71 : decode cX11_copies 71 = .ok (.lastore, 1) := by decide +kernel
theorem dX11_copies_72 : decode cX11_copies 72 = .ok (.aload_n 0, 1) := by decide +kernel
theorem dX11_copies_73 : decode cX11_copies 73 = .ok (.getfield 29, 3) := by decide +kernel
theorem dX11_copies_76 : decode cX11_copies 76 = .ok (.iload_n 2, 1) := by decide +kernel
theorem dX11_copies_77 : decode cX11_copies 77 = .ok (.aload_n 0, 1) := by decide +kernel
theorem dX11_copies_78 : decode cX11_copies 78 = .ok (.getfield 29, 3) := by decide +kernel
theorem dX11_copies_81 : decode cX11_copies 81 = .ok (.iload_n 1, 1) := by decide +kernel
theorem dX11_copies_82 : decode cX11_copies 82 = .ok (.laload, 1) := by decide +kernel
theorem dX11_copies_83 : decode cX11_copies 83 = .ok (.lastore, 1) := by decide +kernel
theorem dX11_copies_84 : decode cX11_copies 84 = .ok (.aload_n 0, 1) := by decide +kernel
theorem dX11_copies_85 : decode cX11_copies 85 = .ok (.getfield 32, 3) := by decide +kernel
theorem dX11_copies_88 : decode cX11_copies 88 = .ok (.iload_n 2, 1) := by decide +kernel
theorem dX11_copies_89 : decode cX11_copies 89 = .ok (.aload_n 0, 1) := by decide +kernel
theorem dX11_copies_90 : decode cX11_copies 90 = .ok (.getfield 32, 3) := by decide +kernel
theorem dX11_copies_93 : decode cX11_copies 93 = .ok (.iload_n 1, 1) := by decide +kernel
theorem dX11_copies_94 : decode cX11_copies 94 = .ok (.laload, 1) := by decide +kernel
theorem dX11_copies_95 : decode cX11_copies 95 = .ok (.lastore, 1) := by decide +kernel
theorem dX11_copies_96 : decode cX11_copies 96 = .ok (.aload_n 0, 1) := by decide +kernel
theorem dX11_copies_97 : decode cX11_copies 97 = .ok (.getfield 35, 3) := by decide +kernel
theorem dX11_copies_100 : decode cX11_copies 100 = .ok (.iload_n 2, 1) := by decide +kernel
theorem dX11_copies_101 : decode cX11_copies 101 = .ok (.aload_n 0, 1) := by decide +kernel
theorem dX11_copies_102 : decode cX11_copies 102 = .ok (.getfield 35, 3) := by decide +kernel
theorem dX11_copies_105 : decode cX11_copies 105 = .ok (.iload_n 1, 1) := by decide +kernel
theorem dX11_copies_106 : decode cX11_copies 106 = .ok (.laload, 1) := by decide +kernel
theorem dX11_copies_107 : decode cX11_copies 107 = .ok (.lastore, 1) := by decide +kernel
theorem dX11_copies_108 : decode cX11_copies 108 = .ok (.aload_n 0, 1) := by decide +kernel
theorem dX11_copies_109 : decode cX11_copies 109 = .ok (.getfield 38, 3) := by decide +kernel
theorem dX11_copies_112 : decode cX11_copies 112 = .ok (.iload_n 2, 1) := by decide +kernel
theorem dX11_copies_113 : decode cX11_copies 113 = .ok (.aload_n 0, 1) := by decide +kernel
theorem dX11_copies_114 : decode cX11_copies 114 = .ok (.getfield 38, 3) := by decide +kernel
theorem dX11_copies_117 : decode cX11_copies 117 = .ok (.iload_n 1, 1) := by decide +kernel
theorem dX11_copies_118 : decode cX11_copies 118 = .ok (.laload, 1) := by decide +kernel
theorem dX11_copies_119 : decode cX11_copies 119 = .ok (.lastore, 1) := by decide +kernel
theorem dX11_copies_120 : decode cX11_copies 120 = .ok (.aload_n 0, 1) := by decide +kernel
theorem dX11_copies_121 : decode cX11_copies 121 = .ok (.getfield 47, 3) := by decide +kernel
theorem dX11_copies_124 : decode cX11_copies 124 = .ok (.iload_n 2, 1) := by decide +kernel
theorem dX11_copies_125 : decode cX11_copies 125 = .ok (.aload_n 0, 1) := by decide +kernel
theorem dX11_copies_126 : decode cX11_copies 126 = .ok (.getfield 47, 3) := by decide +kernel
theorem dX11_copies_129 : decode cX11_copies 129 = .ok (.iload_n 1, 1) := by decide +kernel
theorem dX11_copies_130 : decode cX11_copies 130 = .ok (.baload, 1) := by decide +kernel
theorem dX11_copies_131 : decode cX11_copies 131 = .ok (.bastore, 1) := by decide +kernel
theorem dX11_copies_132 : decode cX11_copies 132 = .ok (.iconst 0, 1) := by decide +kernel
theorem dX11_copies_133 : decode cX11_copies 133 = .ok (.istore_n 3, 1) := by decide +kernel
theorem dX11_copies_134 : decode cX11_copies 134 = .ok (.iload_n 3, 1) := by decide +kernel
theorem dX11_copies_135 : decode cX11_copies 135 = .ok (.bipush 8, 2) := by decide +kernel
theorem dX11_copies_137 : decode cX11_copies 137 = .ok (.if_icmp .ge 53, 3) := by decide +kernel
theorem dX11_copies_140 : decode cX11_copies 140 = .ok (.aload_n 0, 1) := by decide +kernel
theorem dX11_copies_141 : decode cX11_copies 141 = .ok (.getfield 41, 3) := by decide +kernel
theorem dX11_copies_144 : decode cX11_copies 144 = .ok (.bipush 8, 2) := by decide +kernel
theorem dX11_copies_146 : decode cX11_copies 146 = .ok (.iload_n 2, 1) := by decide +kernel
theorem dX11_copies_147 : decode cX11_copies 147 = .ok (.imul, 1) := by decide +kernel
theorem dX11_copies_148 : decode cX11_copies 148 = .ok (.iload_n 3, 1) := by decide +kernel
theorem dX11_copies_149 : decode cX11_copies 149 = .ok (.iadd, 1) := by decide +kernel
theorem dX11_copies_150 : decode cX11_copies 150 = .ok (.aload_n 0, 1) := by decide +kernel
theorem dX11_copies_151 : decode cX11_copies 151 = .ok (.getfield 41, 3) := by decide +kernel
theorem dX11_copies_154 : decode cX11_copies 154 = .ok (.bipush 8, 2) := by decide +kernel
theorem dX11_copies_156 : decode cX11_copies 156 = .ok (.iload_n 1, 1) := by decide +kernel
theorem dX11_copies_157 : decode cX11_copies 157 = .ok (.imul, 1) := by decide +kernel
theorem dX11_copies_158 : decode cX11_copies 158 = .ok (.iload_n 3, 1) := by decide +kernel
theorem dX11_copies_159 : decode cX11_copies 159 = .ok (.iadd, 1) := by decide +kernel
theorem dX11_copies_160 : decode cX11_copies 160 = .ok (.iaload, 1) := by decide +kernel
theorem dX11_copies_161 : decode cX11_copies 161 = .ok (.iastore, 1) := by decide +kernel
theorem dX11_copies_162 : decode cX11_copies 162 = .ok (.aload_n 0, 1) := by decide +kernel
theorem dX11_copies_163 : decode cX11_copies 163 = .ok (.getfield 44, 3) := by decide +kernel
theorem dX11_copies_166 : decode cX11_copies 166 = .ok (.bipush 8, 2) := by decide +kernel
theorem dX11_copies_168 : decode cX11_copies 168 = .ok (.iload_n 2, 1) := by decide +kernel
theorem dX11_copies_169 : decode cX11_copies 169 = .ok (.imul, 1) := by decide +kernel
theorem dX11_copies_170 : decode cX11_copies 170 = .ok (.iload_n 3, 1) := by decide +kernel
theorem dX11_copies_171 : decode cX11_copies 171 = .ok (.iadd, 1) := by decide +kernel
theorem dX11_copies_172 : decode cX11_copies 172 = .ok (.aload_n 0, 1) := by decide +kernel
theorem dX11_copies_173 : decode cX11_copies 173 = .ok (.getfield 44, 3) := by decide +kernel
theorem dX11_copies_176 : decode cX11_copies 176 = .ok (.bipush 8, 2) := by decide +kernel
theorem dX11_copies_178 : decode cX11_copies 178 = .ok (.iload_n 1, 1) := by decide +kernel
theorem dX11_copies_179 : decode cX11_copies 179 = .ok (.imul, 1) := by decide +kernel
theorem dX11_copies_180 : decode cX11_copies 180 = .ok (.iload_n 3, 1) := by decide +kernel
theorem dX11_copies_181 : decode cX11_copies 181 = .ok (.iadd, 1) := by decide +kernel
theorem dX11_copies_182 : decode cX11_copies 182 = .ok (.iaload, 1) := by decide +kernel
theorem dX11_copies_183 : decode cX11_copies 183 = .ok (.iastore, 1) := by decide +kernel
theorem dX11_copies_184 : decode cX11_copies 184 = .ok (.iinc 3 1, 3) := by decide +kernel
theorem dX11_copies_187 : decode cX11_copies 187 = .ok (.goto (-53), 3) := by decide +kernel
theorem dX11_copies_190 : decode cX11_copies 190 = .ok (.iconst 0, 1) := by decide +kernel
theorem dX11_copies_191 : decode cX11_copies 191 = .ok (.istore_n 3, 1) := by decide +kernel
theorem dX11_copies_192 : decode cX11_copies 192 = .ok (.iload_n 3, 1) := by decide +kernel
theorem dX11_copies_193 : decode cX11_copies 193 = .ok (.bipush 12, 2) := by decide +kernel
theorem dX11_copies_195 : decode cX11_copies 195 = .ok (.if_icmp .ge 277, 3) := by decide +kernel
theorem dX11_copies_198 : decode cX11_copies 198 = .ok (.bipush 12, 2) := by decide +kernel
theorem dX11_copies_200 : decode cX11_copies 200 = .ok (.iload_n 1, 1) := by decide +kernel
theorem dX11_copies_201 : decode cX11_copies 201 = .ok (.imul, 1) := by decide +kernel
theorem dX11_copies_202 : decode cX11_copies 202 = .ok (.iload_n 3, 1) := by decide +kernel
theorem dX11_copies_203 : decode cX11_copies 203 = .ok (.iadd, 1) := by decide +kernel
theorem dX11_copies_204 : decode cX11_copies 204 = .ok (.istore 4, 2) := by decide +kernel
theorem dX11_copies_206 : decode cX11_copies 206 = .ok (.bipush 12, 2) := by decide +kernel
theorem dX11_copies_208 : decode cX11_copies 208 = .ok (.iload_n 2, 1) := by decide +kernel
theorem dX11_copies_209 : decode cX11_copies 209 = .ok (.imul, 1) := by decide +kernel
theorem dX11_copies_210 : decode cX11_copies 210 = .ok (.iload_n 3, 1) := by decide +kernel
theorem dX11_copies_211 : decode cX11_copies 211 = .ok (.iadd, 1) := by decide +kernel
theorem dX11_copies_212 : decode cX11_copies 212 = .ok (.istore 5, 2) := by decide +kernel
theorem dX11_copies_214 : decode cX11_copies 214 = .ok (.aload_n 0, 1) := by decide +kernel
theorem dX11_copies_215 : decode cX11_copies 215 = .ok (.getfield 51, 3) := by decide +kernel
theorem dX11_copies_218 : decode cX11_copies 218 = .ok (.iload 5, 2) := by decide +kernel
theorem dX11_copies_220 : decode cX11_copies 220 = .ok (.aload_n 0, 1) := by decide +kernel
theorem dX11_copies_221 : decode cX11_copies 221 = .ok (.getfield 51, 3) := by decide +kernel
theorem dX11_copies_224 : decode cX11_copies 224 = .ok (.iload 4, 2) := by decide +kernel
theorem dX11_copies_226 : decode cX11_copies 226 = .ok (.iaload, 1) := by decide +kernel
theorem dX11_copies_227 : decode cX11_copies 227 = .ok (.iastore, 1) := by decide +kernel
theorem dX11_copies_228 : decode cX11_copies 228 = .ok (.aload_n 0, 1) := by decide +kernel
theorem dX11_copies_229 : decode cX11_copies 229 = .ok (.getfield 54, 3) := by decide +kernel
theorem dX11_copies_232 : decode cX11_copies 232 = .ok (.iload 5, 2) := by decide +kernel
theorem dX11_copies_234 : decode cX11_copies 234 = .ok (.aload_n 0, 1) := by decide +kernel
theorem dX11_copies_235 : decode cX11_copies 235 = .ok (.getfield 54, 3) := by decide +kernel
theorem dX11_copies_238 : decode cX11_copies 238 = .ok (.iload 4, 2) := by decide +kernel
theorem dX11_copies_240 : decode cX11_copies 240 = .ok (.iaload, 1) := by decide +kernel
theorem dX11_copies_241 : decode cX11_copies 241 = .ok (.iastore, 1) := by decide +kernel
theorem dX11_copies_242 : decode cX11_copies 242 = .ok (.aload_n 0, 1) := by decide +kernel
theorem dX11_copies_243 : decode cX11_copies 243 = .ok (.getfield 57, 3) := by decide +kernel
theorem dX11_copies_246 : decode cX11_copies 246 = .ok (.iload 5, 2) := by decide +kernel
theorem dX11_copies_248 : decode cX11_copies 248 = .ok (.aload_n 0, 1) := by decide +kernel
theorem dX11_copies_249 : decode cX11_copies 249 = .ok (.getfield 57, 3) := by decide +kernel
theorem dX11_copies_252 : decode cX11_copies 252 = .ok (.iload 4, 2) := by decide +kernel
theorem dX11_copies_254 : decode cX11_copies 254 = .ok (.iaload, 1) := by decide +kernel
theorem dX11_copies_255 : decode cX11_copies 255 = .ok (.iastore, 1) := by decide +kernel
theorem dX11_copies_256 : decode cX11_copies 256 = .ok (.aload_n 0, 1) := by decide +kernel
theorem dX11_copies_257 : decode cX11_copies 257 = .ok (.getfield 60, 3) := by decide +kernel
theorem dX11_copies_260 : decode cX11_copies 260 = .ok (.iload 5, 2) := by decide +kernel
theorem dX11_copies_262 : decode cX11_copies 262 = .ok (.aload_n 0, 1) := by decide +kernel
theorem dX11_copies_263 : decode cX11_copies 263 = .ok (.getfield 60, 3) := by decide +kernel
theorem dX11_copies_266 : decode cX11_copies 266 = .ok (.iload 4, 2) := by decide +kernel
theorem dX11_copies_268 : decode cX11_copies 268 = .ok (.iaload, 1) := by decide +kernel
theorem dX11_copies_269 : decode cX11_copies 269 = .ok (.iastore, 1) := by decide +kernel
theorem dX11_copies_270 : decode cX11_copies 270 = .ok (.aload_n 0, 1) := by decide +kernel
theorem dX11_copies_271 : decode cX11_copies 271 = .ok (.getfield 63, 3) := by decide +kernel
theorem dX11_copies_274 : decode cX11_copies 274 = .ok (.iload 5, 2) := by decide +kernel
theorem dX11_copies_276 : decode cX11_copies 276 = .ok (.aload_n 0, 1) := by decide +kernel
theorem dX11_copies_277 : decode cX11_copies 277 = .ok (.getfield 63, 3) := by decide +kernel
theorem dX11_copies_280 : decode cX11_copies 280 = .ok (.iload 4, 2) := by decide +kernel
theorem dX11_copies_282 : decode cX11_copies 282 = .ok (.iaload, 1) := by decide +kernel
theorem dX11_copies_283 : decode cX11_copies 283 = .ok (.iastore, 1) := by decide +kernel
theorem dX11_copies_284 : decode cX11_copies 284 = .ok (.aload_n 0, 1) := by decide +kernel
theorem dX11_copies_285 : decode cX11_copies 285 = .ok (.getfield 66, 3) := by decide +kernel
theorem dX11_copies_288 : decode cX11_copies 288 = .ok (.iload 5, 2) := by decide +kernel
theorem dX11_copies_290 : decode cX11_copies 290 = .ok (.aload_n 0, 1) := by decide +kernel
theorem dX11_copies_291 : decode cX11_copies 291 = .ok (.getfield 66, 3) := by decide +kernel
theorem dX11_copies_294 : decode cX11_copies 294 = .ok (.iload 4, 2) := by decide +kernel
theorem dX11_copies_296 : decode cX11_copies 296 = .ok (.iaload, 1) := by decide +kernel
theorem dX11_copies_297 : decode cX11_copies 297 = .ok (.iastore, 1) := by decide +kernel
theorem dX11_copies_298 : decode cX11_copies 298 = .ok (.aload_n 0, 1) := by decide +kernel
theorem dX11_copies_299 : decode cX11_copies 299 = .ok (.getfield 69, 3) := by decide +kernel
theorem dX11_copies_302 : decode cX11_copies 302 = .ok (.iload 5, 2) := by decide +kernel
theorem dX11_copies_304 : decode cX11_copies 304 = .ok (.aload_n 0, 1) := by decide +kernel
theorem dX11_copies_305 : decode cX11_copies 305 = .ok (.getfield 69, 3) := by decide +kernel
theorem dX11_copies_308 : decode cX11_copies 308 = .ok (.iload 4, 2) := by decide +kernel
theorem dX11_copies_310 : decode cX11_copies 310 = .ok (.iaload, 1) := by decide +kernel
theorem dX11_copies_311 : decode cX11_copies 311 = .ok (.iastore, 1) := by decide +kernel
theorem dX11_copies_312 : decode cX11_copies 312 = .ok (.aload_n 0, 1) := by decide +kernel
theorem dX11_copies_313 : decode cX11_copies 313 = .ok (.getfield 72, 3) := by decide +kernel
theorem dX11_copies_316 : decode cX11_copies 316 = .ok (.iload 5, 2) := by decide +kernel
theorem dX11_copies_318 : decode cX11_copies 318 = .ok (.aload_n 0, 1) := by decide +kernel
theorem dX11_copies_319 : decode cX11_copies 319 = .ok (.getfield 72, 3) := by decide +kernel
theorem dX11_copies_322 : decode cX11_copies 322 = .ok (.iload 4, 2) := by decide +kernel
theorem dX11_copies_324 : decode cX11_copies 324 = .ok (.laload, 1) := by decide +kernel
theorem dX11_copies_325 : decode cX11_copies 325 = .ok (.lastore, 1) := by decide +kernel
theorem dX11_copies_326 : decode cX11_copies 326 = .ok (.aload_n 0, 1) := by decide +kernel
theorem dX11_copies_327 : decode cX11_copies 327 = .ok (.getfield 75, 3) := by decide +kernel
theorem dX11_copies_330 : decode cX11_copies 330 = .ok (.iload 5, 2) := by decide +kernel
theorem dX11_copies_332 : decode cX11_copies 332 = .ok (.aload_n 0, 1) := by decide +kernel
theorem dX11_copies_333 : decode cX11_copies 333 = .ok (.getfield 75, 3) := by decide +kernel
theorem dX11_copies_336 : decode cX11_copies 336 = .ok (.iload 4, 2) := by decide +kernel
theorem dX11_copies_338 : decode cX11_copies 338 = .ok (.laload, 1) := by decide +kernel
theorem dX11_copies_339 : decode cX11_copies 339 = .ok (.lastore, 1) := by decide +kernel
theorem dX11_copies_340 : decode cX11_copies 340 = .ok (.aload_n 0, 1) := by decide +kernel
theorem dX11_copies_341 : decode cX11_copies 341 = .ok (.getfield 78, 3) := by decide +kernel
theorem dX11_copies_344 : decode cX11_copies 344 = .ok (.iload 5, 2) := by decide +kernel
theorem dX11_copies_346 : decode cX11_copies 346 = .ok (.aload_n 0, 1) := by decide +kernel
theorem dX11_copies_347 : decode cX11_copies 347 = .ok (.getfield 78, 3) := by decide +kernel
theorem dX11_copies_350 : decode cX11_copies 350 = .ok (.iload 4, 2) := by decide +kernel
theorem dX11_copies_352 : decode cX11_copies 352 = .ok (.laload, 1) := by decide +kernel
theorem dX11_copies_353 : decode cX11_copies 353 = .ok (.lastore, 1) := by decide +kernel
theorem dX11_copies_354 : decode cX11_copies 354 = .ok (.aload_n 0, 1) := by decide +kernel
theorem dX11_copies_355 : decode cX11_copies 355 = .ok (.getfield 81, 3) := by decide +kernel
theorem dX11_copies_358 : decode cX11_copies 358 = .ok (.iload 5, 2) := by decide +kernel
theorem dX11_copies_360 : decode cX11_copies 360 = .ok (.aload_n 0, 1) := by decide +kernel
theorem dX11_copies_361 : decode cX11_copies 361 = .ok (.getfield 81, 3) := by decide +kernel
theorem dX11_copies_364 : decode cX11_copies 364 = .ok (.iload 4, 2) := by decide +kernel
theorem dX11_copies_366 : decode cX11_copies 366 = .ok (.laload, 1) := by decide +kernel
theorem dX11_copies_367 : decode cX11_copies 367 = .ok (.lastore, 1) := by decide +kernel
theorem dX11_copies_368 : decode cX11_copies 368 = .ok (.aload_n 0, 1) := by decide +kernel
theorem dX11_copies_369 : decode cX11_copies 369 = .ok (.getfield 84, 3) := by decide +kernel
theorem dX11_copies_372 : decode cX11_copies 372 = .ok (.iload 5, 2) := by decide +kernel
theorem dX11_copies_374 : decode cX11_copies 374 = .ok (.aload_n 0, 1) := by decide +kernel
theorem dX11_copies_375 : decode cX11_copies 375 = .ok (.getfield 84, 3) := by decide +kernel
theorem dX11_copies_378 : decode cX11_copies 378 = .ok (.iload 4, 2) := by decide +kernel
theorem dX11_copies_380 : decode cX11_copies 380 = .ok (.laload, 1) := by decide +kernel
theorem dX11_copies_381 : decode cX11_copies 381 = .ok (.lastore, 1) := by decide +kernel
theorem dX11_copies_382 : decode cX11_copies 382 = .ok (.aload_n 0, 1) := by decide +kernel
theorem dX11_copies_383 : decode cX11_copies 383 = .ok (.getfield 87, 3) := by decide +kernel
theorem dX11_copies_386 : decode cX11_copies 386 = .ok (.iload 5, 2) := by decide +kernel
theorem dX11_copies_388 : decode cX11_copies 388 = .ok (.aload_n 0, 1) := by decide +kernel
theorem dX11_copies_389 : decode cX11_copies 389 = .ok (.getfield 87, 3) := by decide +kernel
theorem dX11_copies_392 : decode cX11_copies 392 = .ok (.iload 4, 2) := by decide +kernel
theorem dX11_copies_394 : decode cX11_copies 394 = .ok (.laload, 1) := by decide +kernel
theorem dX11_copies_395 : decode cX11_copies 395 = .ok (.lastore, 1) := by decide +kernel
theorem dX11_copies_396 : decode cX11_copies 396 = .ok (.aload_n 0, 1) := by decide +kernel
theorem dX11_copies_397 : decode cX11_copies 397 = .ok (.getfield 90, 3) := by decide +kernel
theorem dX11_copies_400 : decode cX11_copies 400 = .ok (.iload 5, 2) := by decide +kernel
theorem dX11_copies_402 : decode cX11_copies 402 = .ok (.aload_n 0, 1) := by decide +kernel
theorem dX11_copies_403 : decode cX11_copies 403 = .ok (.getfield 90, 3) := by decide +kernel
theorem dX11_copies_406 : decode cX11_copies 406 = .ok (.iload 4, 2) := by decide +kernel
theorem dX11_copies_408 : decode cX11_copies 408 = .ok (.laload, 1) := by decide +kernel
theorem dX11_copies_409 : decode cX11_copies 409 = .ok (.lastore, 1) := by decide +kernel
theorem dX11_copies_410 : decode cX11_copies 410 = .ok (.aload_n 0, 1) := by decide +kernel
theorem dX11_copies_411 : decode cX11_copies 411 = .ok (.getfield 93, 3) := by decide +kernel
theorem dX11_copies_414 : decode cX11_copies 414 = .ok (.iload 5, 2) := by decide +kernel
theorem dX11_copies_416 : decode cX11_copies 416 = .ok (.aload_n 0, 1) := by decide +kernel
theorem dX11_copies_417 : decode cX11_copies 417 = .ok (.getfield 93, 3) := by decide +kernel
theorem dX11_copies_420 : decode cX11_copies 420 = .ok (.iload 4, 2) := by decide +kernel
theorem dX11_copies_422 : decode cX11_copies 422 = .ok (.laload, 1) := by decide +kernel
theorem dX11_copies_423 : decode cX11_copies 423 = .ok (.lastore, 1) := by decide +kernel
theorem dX11_copies_424 : decode cX11_copies 424 = .ok (.aload_n 0, 1) := by decide +kernel
theorem dX11_copies_425 : decode cX11_copies 425 = .ok (.getfield 96, 3) := by decide +kernel
theorem dX11_copies_428 : decode cX11_copies 428 = .ok (.iload 5, 2) := by decide +kernel
theorem dX11_copies_430 : decode cX11_copies 430 = .ok (.aload_n 0, 1) := by decide +kernel
theorem dX11_copies_431 : decode cX11_copies 431 = .ok (.getfield 96, 3) := by decide +kernel
theorem dX11_copies_434 : decode cX11_copies 434 = .ok (.iload 4, 2) := by decide +kernel
theorem dX11_copies_436 : decode cX11_copies 436 = .ok (.baload, 1) := by decide +kernel
theorem dX11_copies_437 : decode cX11_copies 437 = .ok (.bastore, 1) := by decide +kernel
theorem dX11_copies_438 : decode cX11_copies 438 = .ok (.aload_n 0, 1) := by decide +kernel
theorem dX11_copies_439 : decode cX11_copies 439 = .ok (.getfield 99, 3) := by decide +kernel
theorem dX11_copies_442 : decode cX11_copies 442 = .ok (.iload 5, 2) := by decide +kernel
theorem dX11_copies_444 : decode cX11_copies 444 = .ok (.aload_n 0, 1) := by decide +kernel
theorem dX11_copies_445 : decode cX11_copies 445 = .ok (.getfield 99, 3) := by decide +kernel
theorem dX11_copies_448 : decode cX11_copies 448 = .ok (.iload 4, 2) := by decide +kernel
theorem dX11_copies_450 : decode cX11_copies 450 = .ok (.baload, 1) := by decide +kernel
theorem dX11_copies_451 : decode cX11_copies 451 = .ok (.bastore, 1) := by decide +kernel
theorem dX11_copies_452 : decode cX11_copies 452 = .ok (.aload_n 0, 1) := by decide +kernel
theorem dX11_copies_453 : decode cX11_copies 453 = .ok (.getfield 102, 3) := by decide +kernel
theorem dX11_copies_456 : decode cX11_copies 456 = .ok (.iload 5, 2) := by decide +kernel
theorem dX11_copies_458 : decode cX11_copies 458 = .ok (.aload_n 0, 1) := by decide +kernel
theorem dX11_copies_459 : decode cX11_copies 459 = .ok (.getfield 102, 3) := by decide +kernel
theorem dX11_copies_462 : decode cX11_copies 462 = .ok (.iload 4, 2) := by decide +kernel
theorem dX11_copies_464 : decode cX11_copies 464 = .ok (.baload, 1) := by decide +kernel
theorem dX11_copies_465 : decode cX11_copies 465 = .ok (.bastore, 1) := by decide +kernel
theorem dX11_copies_466 : decode cX11_copies 466 = .ok (.iinc 3 1, 3) := by decide +kernel
theorem dX11_copies_469 : decode cX11_copies 469 = .ok (.goto (-277), 3) := by decide +kernel
theorem dX11_copies_472 : decode cX11_copies 472 = .ok (.return_, 1) := by decide +kernel
theorem dX11_dues_0 : decode cX11_dues 0 = .ok (.iconst 0, 1) := by decide +kernel
theorem dX11_dues_1 : decode cX11_dues 1 = .ok (.istore_n 2, 1) := by decide +kernel
theorem dX11_dues_2 : decode cX11_dues 2 = .ok (.iload_n 2, 1) := by decide +kernel
theorem dX11_dues_3 : decode cX11_dues 3 = .ok (.aload_n 0, 1) := by decide +kernel
theorem dX11_dues_4 : decode cX11_dues 4 = .ok (.getfield 7, 3) := by decide +kernel
theorem dX11_dues_7 : decode cX11_dues 7 = .ok (.iload_n 1, 1) := by decide +kernel
theorem dX11_dues_8 : decode cX11_dues 8 = .ok (.iaload, 1) := by decide +kernel
theorem dX11_dues_9 : decode cX11_dues 9 = .ok (.if_icmp .ge 210, 3) := by decide +kernel
theorem dX11_dues_12 : decode cX11_dues 12 = .ok (.bipush 12, 2) := by decide +kernel
theorem dX11_dues_14 : decode cX11_dues 14 = .ok (.iload_n 1, 1) := by decide +kernel
theorem dX11_dues_15 : decode cX11_dues 15 = .ok (.imul, 1) := by decide +kernel
theorem dX11_dues_16 : decode cX11_dues 16 = .ok (.iload_n 2, 1) := by decide +kernel
theorem dX11_dues_17 : decode cX11_dues 17 = .ok (.iadd, 1) := by decide +kernel
theorem dX11_dues_18 : decode cX11_dues 18 = .ok (.istore_n 3, 1) := by decide +kernel
theorem dX11_dues_19 : decode cX11_dues 19 = .ok (.aload_n 0, 1) := by decide +kernel
theorem dX11_dues_20 : decode cX11_dues 20 = .ok (.getfield 96, 3) := by decide +kernel
theorem dX11_dues_23 : decode cX11_dues 23 = .ok (.iload_n 3, 1) := by decide +kernel
theorem dX11_dues_24 : decode cX11_dues 24 = .ok (.baload, 1) := by decide +kernel
theorem dX11_dues_25 : decode cX11_dues 25 = .ok (.ifCond .ne 6, 3) := by decide +kernel
theorem dX11_dues_28 : decode cX11_dues 28 = .ok (.goto 185, 3) := by decide +kernel
theorem dX11_dues_31 : decode cX11_dues 31 = .ok (.aload_n 0, 1) := by decide +kernel
theorem dX11_dues_32 : decode cX11_dues 32 = .ok (.getfield 41, 3) := by decide +kernel
theorem dX11_dues_35 : decode cX11_dues 35 = .ok (.bipush 8, 2) := by decide +kernel
theorem dX11_dues_37 : decode cX11_dues 37 = .ok (.iload_n 1, 1) := by decide +kernel
theorem dX11_dues_38 : decode cX11_dues 38 = .ok (.imul, 1) := by decide +kernel
theorem dX11_dues_39 : decode cX11_dues 39 = .ok (.iconst 0, 1) := by decide +kernel
theorem dX11_dues_40 : decode cX11_dues 40 = .ok (.iadd, 1) := by decide +kernel
theorem dX11_dues_41 : decode cX11_dues 41 = .ok (.iaload, 1) := by decide +kernel
theorem dX11_dues_42 : decode cX11_dues 42 = .ok (.aload_n 0, 1) := by decide +kernel
theorem dX11_dues_43 : decode cX11_dues 43 = .ok (.getfield 99, 3) := by decide +kernel
theorem dX11_dues_46 : decode cX11_dues 46 = .ok (.iload_n 3, 1) := by decide +kernel
theorem dX11_dues_47 : decode cX11_dues 47 = .ok (.baload, 1) := by decide +kernel
theorem dX11_dues_48 : decode cX11_dues 48 = .ok (.ifCond .eq 17, 3) := by decide +kernel
theorem dX11_dues_51 : decode cX11_dues 51 = .ok (.aload_n 0, 1) := by decide +kernel
theorem dX11_dues_52 : decode cX11_dues 52 = .ok (.getfield 41, 3) := by decide +kernel
theorem dX11_dues_55 : decode cX11_dues 55 = .ok (.bipush 8, 2) := by decide +kernel
theorem dX11_dues_57 : decode cX11_dues 57 = .ok (.iload_n 1, 1) := by decide +kernel
theorem dX11_dues_58 : decode cX11_dues 58 = .ok (.imul, 1) := by decide +kernel
theorem dX11_dues_59 : decode cX11_dues 59 = .ok (.iconst 1, 1) := by decide +kernel
theorem dX11_dues_60 : decode cX11_dues 60 = .ok (.iadd, 1) := by decide +kernel
theorem dX11_dues_61 : decode cX11_dues 61 = .ok (.iaload, 1) := by decide +kernel
theorem dX11_dues_62 : decode cX11_dues 62 = .ok (.goto 4, 3) := by decide +kernel
theorem dX11_dues_65 : decode cX11_dues 65 = .ok (.iconst 0, 1) := by decide +kernel
theorem dX11_dues_66 : decode cX11_dues 66 = .ok (.iadd, 1) := by decide +kernel
theorem dX11_dues_67 : decode cX11_dues 67 = .ok (.istore 4, 2) := by decide +kernel
theorem dX11_dues_69 : decode cX11_dues 69 = .ok (.aload_n 0, 1) := by decide +kernel
theorem dX11_dues_70 : decode cX11_dues 70 = .ok (.getfield 51, 3) := by decide +kernel
theorem dX11_dues_73 : decode cX11_dues 73 = .ok (.iload_n 3, 1) := by decide +kernel
theorem dX11_dues_74 : decode cX11_dues 74 = .ok (.iaload, 1) := by decide +kernel
theorem dX11_dues_75 : decode cX11_dues 75 = .ok (.i2l, 1) := by decide +kernel
theorem dX11_dues_76 : decode cX11_dues 76 = .ok (.iload 4, 2) := by decide +kernel
theorem dX11_dues_78 : decode cX11_dues 78 = .ok (.i2l, 1) := by decide +kernel
theorem dX11_dues_79 : decode cX11_dues 79 = .ok (.lmul, 1) := by decide +kernel
theorem dX11_dues_80 : decode cX11_dues 80 = .ok (.aload_n 0, 1) := by decide +kernel
theorem dX11_dues_81 : decode cX11_dues 81 = .ok (.getfield 75, 3) := by decide +kernel
theorem dX11_dues_84 : decode cX11_dues 84 = .ok (.iload_n 3, 1) := by decide +kernel
theorem dX11_dues_85 : decode cX11_dues 85 = .ok (.laload, 1) := by decide +kernel
theorem dX11_dues_86 : decode cX11_dues 86 = .ok (.ladd, 1) := by decide +kernel
theorem dX11_dues_87 : decode cX11_dues 87 = .ok (.lstore 5, 2) := by decide +kernel
theorem dX11_dues_89 : decode cX11_dues 89 = .ok (.aload_n 0, 1) := by decide +kernel
theorem dX11_dues_90 : decode cX11_dues 90 = .ok (.getfield 72, 3) := by decide +kernel
theorem dX11_dues_93 : decode cX11_dues 93 = .ok (.iload_n 3, 1) := by decide +kernel
theorem dX11_dues_94 : decode cX11_dues 94 = .ok (.laload, 1) := by decide +kernel
theorem dX11_dues_95 : decode cX11_dues 95 = .ok (.lload 5, 2) := by decide +kernel
theorem dX11_dues_97 : decode cX11_dues 97 = .ok (.lcmp, 1) := by decide +kernel
theorem dX11_dues_98 : decode cX11_dues 98 = .ok (.ifCond .ge 12, 3) := by decide +kernel
theorem dX11_dues_101 : decode cX11_dues 101 = .ok (.aload_n 0, 1) := by decide +kernel
theorem dX11_dues_102 : decode cX11_dues 102 = .ok (.getfield 47, 3) := by decide +kernel
theorem dX11_dues_105 : decode cX11_dues 105 = .ok (.iload_n 1, 1) := by decide +kernel
theorem dX11_dues_106 : decode cX11_dues 106 = .ok (.baload, 1) := by decide +kernel
theorem dX11_dues_107 : decode cX11_dues 107 = .ok (.ifCond .eq 58, 3) := by decide +kernel
theorem dX11_dues_110 : decode cX11_dues 110 = .ok (.aload_n 0, 1) := by decide +kernel
theorem dX11_dues_111 : decode cX11_dues 111 = .ok (.getfield 72, 3) := by decide +kernel
theorem dX11_dues_114 : decode cX11_dues 114 = .ok (.iload_n 3, 1) := by decide +kernel
theorem dX11_dues_115 : decode cX11_dues 115 = .ok (.aload_n 0, 1) := by decide +kernel
theorem dX11_dues_116 : decode cX11_dues 116 = .ok (.getfield 72, 3) := by decide +kernel
theorem dX11_dues_119 : decode cX11_dues 119 = .ok (.iload_n 3, 1) := by decide +kernel
theorem dX11_dues_120 : decode cX11_dues 120 = .ok (.laload, 1) := by decide +kernel
theorem dX11_dues_121 : decode cX11_dues 121 = .ok (.lload 5, 2) := by decide +kernel
theorem dX11_dues_123 : decode cX11_dues 123 = .ok (.lsub, 1) := by decide +kernel
theorem dX11_dues_124 : decode cX11_dues 124 = .ok (.lastore, 1) := by decide +kernel
theorem dX11_dues_125 : decode cX11_dues 125 = .ok (.aload_n 0, 1) := by decide +kernel
theorem dX11_dues_126 : decode cX11_dues 126 = .ok (.getfield 25, 3) := by decide +kernel
theorem dX11_dues_129 : decode cX11_dues 129 = .ok (.iload_n 1, 1) := by decide +kernel
theorem dX11_dues_130 : decode cX11_dues 130 = .ok (.aload_n 0, 1) := by decide +kernel
theorem dX11_dues_131 : decode cX11_dues 131 = .ok (.getfield 25, 3) := by decide +kernel
theorem dX11_dues_134 : decode cX11_dues 134 = .ok (.iload_n 1, 1) := by decide +kernel
theorem dX11_dues_135 : decode cX11_dues 135 = .ok (.laload, 1) := by decide +kernel
theorem dX11_dues_136 : decode cX11_dues 136 = .ok (.lload 5, 2) := by decide +kernel
theorem dX11_dues_138 : decode cX11_dues 138 = .ok (.ladd, 1) := by decide +kernel
theorem dX11_dues_139 : decode cX11_dues 139 = .ok (.lastore, 1) := by decide +kernel
theorem dX11_dues_140 : decode cX11_dues 140 = .ok (.aload_n 0, 1) := by decide +kernel
theorem dX11_dues_141 : decode cX11_dues 141 = .ok (.getfield 78, 3) := by decide +kernel
theorem dX11_dues_144 : decode cX11_dues 144 = .ok (.iload_n 3, 1) := by decide +kernel
theorem dX11_dues_145 : decode cX11_dues 145 = .ok (.aload_n 0, 1) := by decide +kernel
theorem dX11_dues_146 : decode cX11_dues 146 = .ok (.getfield 78, 3) := by decide +kernel
theorem dX11_dues_149 : decode cX11_dues 149 = .ok (.iload_n 3, 1) := by decide +kernel
theorem dX11_dues_150 : decode cX11_dues 150 = .ok (.laload, 1) := by decide +kernel
theorem dX11_dues_151 : decode cX11_dues 151 = .ok (.lload 5, 2) := by decide +kernel
theorem dX11_dues_153 : decode cX11_dues 153 = .ok (.ladd, 1) := by decide +kernel
theorem dX11_dues_154 : decode cX11_dues 154 = .ok (.lastore, 1) := by decide +kernel
theorem dX11_dues_155 : decode cX11_dues 155 = .ok (.aload_n 0, 1) := by decide +kernel
theorem dX11_dues_156 : decode cX11_dues 156 = .ok (.getfield 75, 3) := by decide +kernel
theorem dX11_dues_159 : decode cX11_dues 159 = .ok (.iload_n 3, 1) := by decide +kernel
theorem dX11_dues_160 : decode cX11_dues 160 = .ok (.lconst 0, 1) := by decide +kernel
theorem dX11_dues_161 : decode cX11_dues 161 = .ok (.lastore, 1) := by decide +kernel
theorem dX11_dues_162 : decode cX11_dues 162 = .ok (.goto 51, 3) := by decide +kernel
theorem dX11_dues_165 : decode cX11_dues 165 = .ok (.aload_n 0, 1) := by decide +kernel
theorem dX11_dues_166 : decode cX11_dues 166 = .ok (.getfield 51, 3) := by decide +kernel
theorem dX11_dues_169 : decode cX11_dues 169 = .ok (.iload_n 3, 1) := by decide +kernel
theorem dX11_dues_170 : decode cX11_dues 170 = .ok (.iaload, 1) := by decide +kernel
theorem dX11_dues_171 : decode cX11_dues 171 = .ok (.i2l, 1) := by decide +kernel
theorem dX11_dues_172 : decode cX11_dues 172 = .ok (.aload_n 0, 1) := by decide +kernel
theorem dX11_dues_173 : decode cX11_dues 173 = .ok (.getfield 41, 3) := by decide +kernel
theorem dX11_dues_176 : decode cX11_dues 176 = .ok (.bipush 8, 2) := by decide +kernel
theorem dX11_dues_178 : decode cX11_dues 178 = .ok (.iload_n 1, 1) := by decide +kernel
theorem dX11_dues_179 : decode cX11_dues 179 = .ok (.imul, 1) := by decide +kernel
theorem dX11_dues_180 : decode cX11_dues 180 = .ok (.iconst 2, 1) := by decide +kernel
theorem dX11_dues_181 : decode cX11_dues 181 = .ok (.iadd, 1) := by decide +kernel
theorem dX11_dues_182 : decode cX11_dues 182 = .ok (.iaload, 1) := by decide +kernel
theorem dX11_dues_183 : decode cX11_dues 183 = .ok (.i2l, 1) := by decide +kernel
theorem dX11_dues_184 : decode cX11_dues 184 = .ok (.lmul, 1) := by decide +kernel
theorem dX11_dues_185 : decode cX11_dues 185 = .ok (.lstore 7, 2) := by decide +kernel
theorem dX11_dues_187 : decode cX11_dues 187 = .ok (.aload_n 0, 1) := by decide +kernel
theorem dX11_dues_188 : decode cX11_dues 188 = .ok (.getfield 75, 3) := by decide +kernel
theorem dX11_dues_191 : decode cX11_dues 191 = .ok (.iload_n 3, 1) := by decide +kernel
theorem dX11_dues_192 : decode cX11_dues 192 = .ok (.lload 5, 2) := by decide +kernel
theorem dX11_dues_194 : decode cX11_dues 194 = .ok (.lload 7, 2) := by decide +kernel
theorem dX11_dues_196 : decode cX11_dues 196 = .ok (.ladd, 1) := by decide +kernel
theorem dX11_dues_197 : decode cX11_dues 197 = .ok (.lastore, 1) := by decide +kernel
theorem dX11_dues_198 : decode cX11_dues 198 = .ok (.aload_n 0, 1) := by decide +kernel
theorem dX11_dues_199 : decode cX11_dues 199 = .ok (.getfield 32, 3) := by decide +kernel
theorem dX11_dues_202 : decode cX11_dues 202 = .ok (.iload_n 1, 1) := by decide +kernel
theorem dX11_dues_203 : decode cX11_dues 203 = .ok (.aload_n 0, 1) := by decide +kernel
theorem dX11_dues_204 : decode cX11_dues 204 = .ok (.getfield 32, 3) := by decide +kernel
theorem dX11_dues_207 : decode cX11_dues 207 = .ok (.iload_n 1, 1) := by decide +kernel
theorem dX11_dues_208 : decode cX11_dues 208 = .ok (.laload, 1) := by decide +kernel
theorem dX11_dues_209 : decode cX11_dues 209 = .ok (.lload 7, 2) := by decide +kernel
theorem dX11_dues_211 : decode cX11_dues 211 = .ok (.ladd, 1) := by decide +kernel
theorem dX11_dues_212 : decode cX11_dues 212 = .ok (.lastore, 1) := by decide +kernel
theorem dX11_dues_213 : decode cX11_dues 213 = .ok (.iinc 2 1, 3) := by decide +kernel
theorem dX11_dues_216 : decode cX11_dues 216 = .ok (.goto (-214), 3) := by decide +kernel
theorem dX11_dues_219 : decode cX11_dues 219 = .ok (.return_, 1) := by decide +kernel
theorem dX11_paysLeavers_0 : decode cX11_paysLeavers 0 = .ok (.iconst 0, 1) := by decide +kernel
theorem dX11_paysLeavers_1 : decode cX11_paysLeavers 1 = .ok (.istore_n 2, 1) := by decide +kernel
theorem dX11_paysLeavers_2 : decode cX11_paysLeavers 2 = .ok (.iload_n 2, 1) := by decide +kernel
theorem dX11_paysLeavers_3 : decode cX11_paysLeavers 3 = .ok (.aload_n 0, 1) := by decide +kernel
theorem dX11_paysLeavers_4 : decode cX11_paysLeavers 4 = .ok (.getfield 19, 3) := by decide +kernel
theorem dX11_paysLeavers_7 : decode cX11_paysLeavers 7 = .ok (.iload_n 1, 1) := by decide +kernel
theorem dX11_paysLeavers_8 : decode cX11_paysLeavers 8 = .ok (.iaload, 1) := by decide +kernel
theorem dX11_paysLeavers_9 : decode cX11_paysLeavers 9 = .ok (.if_icmp .ge 140, 3) := by decide +kernel
theorem dX11_paysLeavers_12 : decode cX11_paysLeavers 12 = .ok (.bipush 12, 2) := by decide +kernel
theorem dX11_paysLeavers_14 : decode cX11_paysLeavers 14 = .ok (.iload_n 1, 1) := by decide +kernel
theorem dX11_paysLeavers_15 : decode cX11_paysLeavers 15 = .ok (.imul, 1) := by decide +kernel
theorem dX11_paysLeavers_16 : decode cX11_paysLeavers 16 = .ok (.aload_n 0, 1) := by decide +kernel
theorem dX11_paysLeavers_17 : decode cX11_paysLeavers 17 = .ok (.getfield 69, 3) := by decide +kernel
theorem dX11_paysLeavers_20 : decode cX11_paysLeavers 20 = .ok (.bipush 12, 2) := by decide +kernel
theorem dX11_paysLeavers_22 : decode cX11_paysLeavers 22 = .ok (.iload_n 1, 1) := by decide +kernel
theorem dX11_paysLeavers_23 : decode cX11_paysLeavers 23 = .ok (.imul, 1) := by decide +kernel
theorem dX11_paysLeavers_24 : decode cX11_paysLeavers 24 = .ok (.iload_n 2, 1) := by decide +kernel
theorem dX11_paysLeavers_25 : decode cX11_paysLeavers 25 = .ok (.iadd, 1) := by decide +kernel
theorem dX11_paysLeavers_26 : decode cX11_paysLeavers 26 = .ok (.iaload, 1) := by decide +kernel
theorem dX11_paysLeavers_27 : decode cX11_paysLeavers 27 = .ok (.iadd, 1) := by decide +kernel
theorem dX11_paysLeavers_28 : decode cX11_paysLeavers 28 = .ok (.istore_n 3, 1) := by decide +kernel
theorem dX11_paysLeavers_29 : decode cX11_paysLeavers 29 = .ok (.aload_n 0, 1) := by decide +kernel
theorem dX11_paysLeavers_30 : decode cX11_paysLeavers 30 = .ok (.getfield 87, 3) := by decide +kernel
theorem dX11_paysLeavers_33 : decode cX11_paysLeavers 33 = .ok (.iload_n 3, 1) := by decide +kernel
theorem dX11_paysLeavers_34 : decode cX11_paysLeavers 34 = .ok (.laload, 1) := by decide +kernel
theorem dX11_paysLeavers_35 : decode cX11_paysLeavers 35 = .ok (.lconst 0, 1) := by decide +kernel
theorem dX11_paysLeavers_36 : decode cX11_paysLeavers 36 = .ok (.lcmp, 1) := by decide +kernel
theorem dX11_paysLeavers_37 : decode cX11_paysLeavers 37 = .ok (.ifCond .ne 14, 3) := by decide +kernel
theorem dX11_paysLeavers_40 : decode cX11_paysLeavers 40 = .ok (.aload_n 0, 1) := by decide +kernel
theorem dX11_paysLeavers_41 : decode cX11_paysLeavers 41 = .ok (.getfield 90, 3) := by decide +kernel
theorem dX11_paysLeavers_44 : decode cX11_paysLeavers 44 = .ok (.iload_n 3, 1) := by decide +kernel
