/-! FACTS: instructions by their places, on -/
theorem k138_0 : am_cd am_x 138 0 = some (.aload_n 0, 1, 0, 0, .null) := by decide +kernel
theorem k138_1 : am_cd am_x 138 1 = some (.iconst 4, 1, 0, 0, .null) := by decide +kernel
theorem k138_2 : am_cd am_x 138 2 = some (.bipush 99, 2, 0, 0, .null) := by decide +kernel
theorem k138_4 : am_cd am_x 138 4 = some (.bipush 104, 2, 0, 0, .null) := by decide +kernel
theorem k138_6 : am_cd am_x 138 6 = some (.bipush 105, 2, 0, 0, .null) := by decide +kernel
theorem k138_8 : am_cd am_x 138 8 = some (.invokevirtual 112, 3, 136, 8, .null) := by decide +kernel
theorem k138_11 : am_cd am_x 138 11 = some (.ifCond .eq 17, 3, 28, 0, .null) := by decide +kernel
theorem k138_14 : am_cd am_x 138 14 = some (.aload_n 0, 1, 0, 0, .null) := by decide +kernel
theorem k138_15 : am_cd am_x 138 15 = some (.iconst 3, 1, 0, 0, .null) := by decide +kernel
theorem k138_16 : am_cd am_x 138 16 = some (.bipush 112, 2, 0, 0, .null) := by decide +kernel
theorem k138_18 : am_cd am_x 138 18 = some (.iconst 0, 1, 0, 0, .null) := by decide +kernel
theorem k138_19 : am_cd am_x 138 19 = some (.iconst 0, 1, 0, 0, .null) := by decide +kernel
theorem k138_20 : am_cd am_x 138 20 = some (.invokevirtual 116, 3, 137, 8, .null) := by decide +kernel
theorem k138_23 : am_cd am_x 138 23 = some (.ifCond .eq 5, 3, 28, 0, .null) := by decide +kernel
theorem k138_26 : am_cd am_x 138 26 = some (.iconst 0, 1, 0, 0, .null) := by decide +kernel
theorem k138_27 : am_cd am_x 138 27 = some (.ireturn, 1, 0, 0, .null) := by decide +kernel
theorem k138_28 : am_cd am_x 138 28 = some (.aload_n 0, 1, 0, 0, .null) := by decide +kernel
theorem k138_29 : am_cd am_x 138 29 = some (.bipush 6, 2, 0, 0, .null) := by decide +kernel
theorem k138_31 : am_cd am_x 138 31 = some (.bipush 99, 2, 0, 0, .null) := by decide +kernel
theorem k138_33 : am_cd am_x 138 33 = some (.bipush 111, 2, 0, 0, .null) := by decide +kernel
theorem k138_35 : am_cd am_x 138 35 = some (.bipush 108, 2, 0, 0, .null) := by decide +kernel
theorem k138_37 : am_cd am_x 138 37 = some (.invokevirtual 112, 3, 136, 8, .null) := by decide +kernel
theorem k138_40 : am_cd am_x 138 40 = some (.ifCond .eq 19, 3, 59, 0, .null) := by decide +kernel
theorem k138_43 : am_cd am_x 138 43 = some (.aload_n 0, 1, 0, 0, .null) := by decide +kernel
theorem k138_44 : am_cd am_x 138 44 = some (.iconst 3, 1, 0, 0, .null) := by decide +kernel
theorem k138_45 : am_cd am_x 138 45 = some (.bipush 117, 2, 0, 0, .null) := by decide +kernel
theorem k138_47 : am_cd am_x 138 47 = some (.bipush 109, 2, 0, 0, .null) := by decide +kernel
theorem k138_49 : am_cd am_x 138 49 = some (.bipush 110, 2, 0, 0, .null) := by decide +kernel
theorem k138_51 : am_cd am_x 138 51 = some (.invokevirtual 116, 3, 137, 8, .null) := by decide +kernel
theorem k138_54 : am_cd am_x 138 54 = some (.ifCond .eq 5, 3, 59, 0, .null) := by decide +kernel
theorem k138_57 : am_cd am_x 138 57 = some (.iconst 1, 1, 0, 0, .null) := by decide +kernel
theorem k138_58 : am_cd am_x 138 58 = some (.ireturn, 1, 0, 0, .null) := by decide +kernel
theorem k138_59 : am_cd am_x 138 59 = some (.aload_n 0, 1, 0, 0, .null) := by decide +kernel
theorem k138_60 : am_cd am_x 138 60 = some (.iconst 3, 1, 0, 0, .null) := by decide +kernel
theorem k138_61 : am_cd am_x 138 61 = some (.bipush 111, 2, 0, 0, .null) := by decide +kernel
theorem k138_63 : am_cd am_x 138 63 = some (.bipush 117, 2, 0, 0, .null) := by decide +kernel
theorem k138_65 : am_cd am_x 138 65 = some (.bipush 116, 2, 0, 0, .null) := by decide +kernel
theorem k138_67 : am_cd am_x 138 67 = some (.invokevirtual 112, 3, 136, 8, .null) := by decide +kernel
theorem k138_70 : am_cd am_x 138 70 = some (.ifCond .eq 5, 3, 75, 0, .null) := by decide +kernel
theorem k138_73 : am_cd am_x 138 73 = some (.iconst 2, 1, 0, 0, .null) := by decide +kernel
theorem k138_74 : am_cd am_x 138 74 = some (.ireturn, 1, 0, 0, .null) := by decide +kernel
theorem k138_75 : am_cd am_x 138 75 = some (.aload_n 0, 1, 0, 0, .null) := by decide +kernel
theorem k138_76 : am_cd am_x 138 76 = some (.bipush 8, 2, 0, 0, .null) := by decide +kernel
theorem k138_78 : am_cd am_x 138 78 = some (.bipush 114, 2, 0, 0, .null) := by decide +kernel
theorem k138_80 : am_cd am_x 138 80 = some (.bipush 101, 2, 0, 0, .null) := by decide +kernel
theorem k138_82 : am_cd am_x 138 82 = some (.bipush 103, 2, 0, 0, .null) := by decide +kernel
theorem k138_84 : am_cd am_x 138 84 = some (.invokevirtual 112, 3, 136, 8, .null) := by decide +kernel
theorem k138_87 : am_cd am_x 138 87 = some (.ifCond .eq 33, 3, 120, 0, .null) := by decide +kernel
theorem k138_90 : am_cd am_x 138 90 = some (.aload_n 0, 1, 0, 0, .null) := by decide +kernel
theorem k138_91 : am_cd am_x 138 91 = some (.iconst 3, 1, 0, 0, .null) := by decide +kernel
theorem k138_92 : am_cd am_x 138 92 = some (.bipush 105, 2, 0, 0, .null) := by decide +kernel
theorem k138_94 : am_cd am_x 138 94 = some (.bipush 115, 2, 0, 0, .null) := by decide +kernel
theorem k138_96 : am_cd am_x 138 96 = some (.bipush 116, 2, 0, 0, .null) := by decide +kernel
theorem k138_98 : am_cd am_x 138 98 = some (.invokevirtual 116, 3, 137, 8, .null) := by decide +kernel
theorem k138_101 : am_cd am_x 138 101 = some (.ifCond .eq 19, 3, 120, 0, .null) := by decide +kernel
theorem k138_104 : am_cd am_x 138 104 = some (.aload_n 0, 1, 0, 0, .null) := by decide +kernel
theorem k138_105 : am_cd am_x 138 105 = some (.bipush 6, 2, 0, 0, .null) := by decide +kernel
theorem k138_107 : am_cd am_x 138 107 = some (.bipush 101, 2, 0, 0, .null) := by decide +kernel
theorem k138_109 : am_cd am_x 138 109 = some (.bipush 114, 2, 0, 0, .null) := by decide +kernel
theorem k138_111 : am_cd am_x 138 111 = some (.iconst 0, 1, 0, 0, .null) := by decide +kernel
theorem k138_112 : am_cd am_x 138 112 = some (.invokevirtual 116, 3, 137, 8, .null) := by decide +kernel
theorem k138_115 : am_cd am_x 138 115 = some (.ifCond .eq 5, 3, 120, 0, .null) := by decide +kernel
theorem k138_118 : am_cd am_x 138 118 = some (.iconst 3, 1, 0, 0, .null) := by decide +kernel
theorem k138_119 : am_cd am_x 138 119 = some (.ireturn, 1, 0, 0, .null) := by decide +kernel
theorem k138_120 : am_cd am_x 138 120 = some (.aload_n 0, 1, 0, 0, .null) := by decide +kernel
theorem k138_121 : am_cd am_x 138 121 = some (.iconst 4, 1, 0, 0, .null) := by decide +kernel
theorem k138_122 : am_cd am_x 138 122 = some (.bipush 112, 2, 0, 0, .null) := by decide +kernel
theorem k138_124 : am_cd am_x 138 124 = some (.bipush 111, 2, 0, 0, .null) := by decide +kernel
theorem k138_126 : am_cd am_x 138 126 = some (.bipush 108, 2, 0, 0, .null) := by decide +kernel
theorem k138_128 : am_cd am_x 138 128 = some (.invokevirtual 112, 3, 136, 8, .null) := by decide +kernel
theorem k138_131 : am_cd am_x 138 131 = some (.ifCond .eq 19, 3, 150, 0, .null) := by decide +kernel
theorem k138_134 : am_cd am_x 138 134 = some (.aload_n 0, 1, 0, 0, .null) := by decide +kernel
theorem k138_135 : am_cd am_x 138 135 = some (.iconst 3, 1, 0, 0, .null) := by decide +kernel
theorem k138_136 : am_cd am_x 138 136 = some (.bipush 121, 2, 0, 0, .null) := by decide +kernel
theorem k138_138 : am_cd am_x 138 138 = some (.iconst 0, 1, 0, 0, .null) := by decide +kernel
theorem k138_139 : am_cd am_x 138 139 = some (.iconst 0, 1, 0, 0, .null) := by decide +kernel
theorem k138_140 : am_cd am_x 138 140 = some (.invokevirtual 116, 3, 137, 8, .null) := by decide +kernel
theorem k138_143 : am_cd am_x 138 143 = some (.ifCond .eq 7, 3, 150, 0, .null) := by decide +kernel
theorem k138_146 : am_cd am_x 138 146 = some (.iconst 4, 1, 0, 0, .null) := by decide +kernel
theorem k138_147 : am_cd am_x 138 147 = some (.goto 35, 3, 182, 0, .null) := by decide +kernel
theorem k138_150 : am_cd am_x 138 150 = some (.aload_n 0, 1, 0, 0, .null) := by decide +kernel
theorem k138_151 : am_cd am_x 138 151 = some (.iconst 4, 1, 0, 0, .null) := by decide +kernel
theorem k138_152 : am_cd am_x 138 152 = some (.bipush 99, 2, 0, 0, .null) := by decide +kernel
theorem k138_154 : am_cd am_x 138 154 = some (.bipush 101, 2, 0, 0, .null) := by decide +kernel
theorem k138_156 : am_cd am_x 138 156 = some (.bipush 108, 2, 0, 0, .null) := by decide +kernel
theorem k138_158 : am_cd am_x 138 158 = some (.invokevirtual 112, 3, 136, 8, .null) := by decide +kernel
theorem k138_161 : am_cd am_x 138 161 = some (.ifCond .eq 19, 3, 180, 0, .null) := by decide +kernel
theorem k138_164 : am_cd am_x 138 164 = some (.aload_n 0, 1, 0, 0, .null) := by decide +kernel
theorem k138_165 : am_cd am_x 138 165 = some (.iconst 3, 1, 0, 0, .null) := by decide +kernel
theorem k138_166 : am_cd am_x 138 166 = some (.bipush 108, 2, 0, 0, .null) := by decide +kernel
theorem k138_168 : am_cd am_x 138 168 = some (.iconst 0, 1, 0, 0, .null) := by decide +kernel
theorem k138_169 : am_cd am_x 138 169 = some (.iconst 0, 1, 0, 0, .null) := by decide +kernel
theorem k138_170 : am_cd am_x 138 170 = some (.invokevirtual 116, 3, 137, 8, .null) := by decide +kernel
theorem k138_173 : am_cd am_x 138 173 = some (.ifCond .eq 7, 3, 180, 0, .null) := by decide +kernel
theorem k138_176 : am_cd am_x 138 176 = some (.iconst 5, 1, 0, 0, .null) := by decide +kernel
theorem k138_177 : am_cd am_x 138 177 = some (.goto 5, 3, 182, 0, .null) := by decide +kernel
theorem k138_180 : am_cd am_x 138 180 = some (.bipush (-4), 2, 0, 0, .null) := by decide +kernel
theorem k138_182 : am_cd am_x 138 182 = some (.ireturn, 1, 0, 0, .null) := by decide +kernel
theorem k139_0 : am_cd am_x 139 0 = some (.aload_n 0, 1, 0, 0, .null) := by decide +kernel
theorem k139_1 : am_cd am_x 139 1 = some (.getfield 97, 3, 8, 17, .null) := by decide +kernel
theorem k139_4 : am_cd am_x 139 4 = some (.ifCond .le 4, 3, 8, 0, .null) := by decide +kernel
theorem k139_7 : am_cd am_x 139 7 = some (.return_, 1, 0, 0, .null) := by decide +kernel
theorem k139_8 : am_cd am_x 139 8 = some (.aload_n 0, 1, 0, 0, .null) := by decide +kernel
theorem k139_9 : am_cd am_x 139 9 = some (.aload_n 0, 1, 0, 0, .null) := by decide +kernel
theorem k139_10 : am_cd am_x 139 10 = some (.getfield 106, 3, 8, 13, .null) := by decide +kernel
theorem k139_13 : am_cd am_x 139 13 = some (.invokevirtual 109, 3, 135, 8, .null) := by decide +kernel
theorem k139_16 : am_cd am_x 139 16 = some (.bipush 32, 2, 0, 0, .null) := by decide +kernel
theorem k139_18 : am_cd am_x 139 18 = some (.if_icmp .ne 16, 3, 34, 0, .null) := by decide +kernel
theorem k139_21 : am_cd am_x 139 21 = some (.aload_n 0, 1, 0, 0, .null) := by decide +kernel
theorem k139_22 : am_cd am_x 139 22 = some (.dup, 1, 0, 0, .null) := by decide +kernel
theorem k139_23 : am_cd am_x 139 23 = some (.getfield 106, 3, 8, 13, .null) := by decide +kernel
theorem k139_26 : am_cd am_x 139 26 = some (.iconst 1, 1, 0, 0, .null) := by decide +kernel
theorem k139_27 : am_cd am_x 139 27 = some (.iadd, 1, 0, 0, .null) := by decide +kernel
theorem k139_28 : am_cd am_x 139 28 = some (.putfield 106, 3, 8, 13, .int 0) := by decide +kernel
theorem k139_31 : am_cd am_x 139 31 = some (.goto (-23), 3, 8, 0, .null) := by decide +kernel
theorem k139_34 : am_cd am_x 139 34 = some (.aload_n 0, 1, 0, 0, .null) := by decide +kernel
theorem k139_35 : am_cd am_x 139 35 = some (.aload_n 0, 1, 0, 0, .null) := by decide +kernel
theorem k139_36 : am_cd am_x 139 36 = some (.getfield 106, 3, 8, 13, .null) := by decide +kernel
theorem k139_39 : am_cd am_x 139 39 = some (.putfield 100, 3, 8, 14, .int 0) := by decide +kernel
theorem k139_42 : am_cd am_x 139 42 = some (.aload_n 0, 1, 0, 0, .null) := by decide +kernel
theorem k139_43 : am_cd am_x 139 43 = some (.aload_n 0, 1, 0, 0, .null) := by decide +kernel
theorem k139_44 : am_cd am_x 139 44 = some (.getfield 106, 3, 8, 13, .null) := by decide +kernel
theorem k139_47 : am_cd am_x 139 47 = some (.invokevirtual 109, 3, 135, 8, .null) := by decide +kernel
theorem k139_50 : am_cd am_x 139 50 = some (.istore_n 1, 1, 0, 0, .null) := by decide +kernel
theorem k139_51 : am_cd am_x 139 51 = some (.iload_n 1, 1, 0, 0, .null) := by decide +kernel
theorem k139_52 : am_cd am_x 139 52 = some (.ifCond .ge 11, 3, 63, 0, .null) := by decide +kernel
theorem k139_55 : am_cd am_x 139 55 = some (.aload_n 0, 1, 0, 0, .null) := by decide +kernel
theorem k139_56 : am_cd am_x 139 56 = some (.iconst 0, 1, 0, 0, .null) := by decide +kernel
theorem k139_57 : am_cd am_x 139 57 = some (.putfield 119, 3, 8, 15, .int 0) := by decide +kernel
theorem k139_60 : am_cd am_x 139 60 = some (.goto 214, 3, 274, 0, .null) := by decide +kernel
theorem k139_63 : am_cd am_x 139 63 = some (.iload_n 1, 1, 0, 0, .null) := by decide +kernel
theorem k139_64 : am_cd am_x 139 64 = some (.i2l, 1, 0, 0, .null) := by decide +kernel
theorem k139_65 : am_cd am_x 139 65 = some (.ldc2_w 122, 3, 0, 0, .long 97) := by decide +kernel
theorem k139_68 : am_cd am_x 139 68 = some (.ldc2_w 124, 3, 0, 0, .long 122) := by decide +kernel
theorem k139_71 : am_cd am_x 139 71 = some (.invokestatic 60, 3, 125, 0, .null) := by decide +kernel
theorem k139_74 : am_cd am_x 139 74 = some (.ifCond .eq 42, 3, 116, 0, .null) := by decide +kernel
theorem k139_77 : am_cd am_x 139 77 = some (.aload_n 0, 1, 0, 0, .null) := by decide +kernel
theorem k139_78 : am_cd am_x 139 78 = some (.iconst 1, 1, 0, 0, .null) := by decide +kernel
theorem k139_79 : am_cd am_x 139 79 = some (.putfield 119, 3, 8, 15, .int 0) := by decide +kernel
theorem k139_82 : am_cd am_x 139 82 = some (.aload_n 0, 1, 0, 0, .null) := by decide +kernel
theorem k139_83 : am_cd am_x 139 83 = some (.aload_n 0, 1, 0, 0, .null) := by decide +kernel
theorem k139_84 : am_cd am_x 139 84 = some (.getfield 106, 3, 8, 13, .null) := by decide +kernel
theorem k139_87 : am_cd am_x 139 87 = some (.invokevirtual 109, 3, 135, 8, .null) := by decide +kernel
theorem k139_90 : am_cd am_x 139 90 = some (.i2l, 1, 0, 0, .null) := by decide +kernel
theorem k139_91 : am_cd am_x 139 91 = some (.ldc2_w 122, 3, 0, 0, .long 97) := by decide +kernel
theorem k139_94 : am_cd am_x 139 94 = some (.ldc2_w 124, 3, 0, 0, .long 122) := by decide +kernel
theorem k139_97 : am_cd am_x 139 97 = some (.invokestatic 60, 3, 125, 0, .null) := by decide +kernel
theorem k139_100 : am_cd am_x 139 100 = some (.ifCond .eq 174, 3, 274, 0, .null) := by decide +kernel
theorem k139_103 : am_cd am_x 139 103 = some (.aload_n 0, 1, 0, 0, .null) := by decide +kernel
theorem k139_104 : am_cd am_x 139 104 = some (.dup, 1, 0, 0, .null) := by decide +kernel
theorem k139_105 : am_cd am_x 139 105 = some (.getfield 106, 3, 8, 13, .null) := by decide +kernel
theorem k139_108 : am_cd am_x 139 108 = some (.iconst 1, 1, 0, 0, .null) := by decide +kernel
theorem k139_109 : am_cd am_x 139 109 = some (.iadd, 1, 0, 0, .null) := by decide +kernel
theorem k139_110 : am_cd am_x 139 110 = some (.putfield 106, 3, 8, 13, .int 0) := by decide +kernel
theorem k139_113 : am_cd am_x 139 113 = some (.goto (-31), 3, 82, 0, .null) := by decide +kernel
theorem k139_116 : am_cd am_x 139 116 = some (.iload_n 1, 1, 0, 0, .null) := by decide +kernel
theorem k139_117 : am_cd am_x 139 117 = some (.i2l, 1, 0, 0, .null) := by decide +kernel
theorem k139_118 : am_cd am_x 139 118 = some (.ldc2_w 126, 3, 0, 0, .long 48) := by decide +kernel
theorem k139_121 : am_cd am_x 139 121 = some (.ldc2_w 128, 3, 0, 0, .long 57) := by decide +kernel
theorem k139_124 : am_cd am_x 139 124 = some (.invokestatic 60, 3, 125, 0, .null) := by decide +kernel
theorem k139_127 : am_cd am_x 139 127 = some (.ifCond .eq 116, 3, 243, 0, .null) := by decide +kernel
theorem k139_130 : am_cd am_x 139 130 = some (.aload_n 0, 1, 0, 0, .null) := by decide +kernel
theorem k139_131 : am_cd am_x 139 131 = some (.iconst 2, 1, 0, 0, .null) := by decide +kernel
theorem k139_132 : am_cd am_x 139 132 = some (.putfield 119, 3, 8, 15, .int 0) := by decide +kernel
theorem k139_135 : am_cd am_x 139 135 = some (.aload_n 0, 1, 0, 0, .null) := by decide +kernel
theorem k139_136 : am_cd am_x 139 136 = some (.iconst 0, 1, 0, 0, .null) := by decide +kernel
theorem k139_137 : am_cd am_x 139 137 = some (.putfield 130, 3, 8, 16, .int 0) := by decide +kernel
theorem k139_140 : am_cd am_x 139 140 = some (.aload_n 0, 1, 0, 0, .null) := by decide +kernel
theorem k139_141 : am_cd am_x 139 141 = some (.aload_n 0, 1, 0, 0, .null) := by decide +kernel
theorem k139_142 : am_cd am_x 139 142 = some (.getfield 106, 3, 8, 13, .null) := by decide +kernel
theorem k139_145 : am_cd am_x 139 145 = some (.invokevirtual 109, 3, 135, 8, .null) := by decide +kernel
theorem k139_148 : am_cd am_x 139 148 = some (.i2l, 1, 0, 0, .null) := by decide +kernel
theorem k139_149 : am_cd am_x 139 149 = some (.ldc2_w 126, 3, 0, 0, .long 48) := by decide +kernel
theorem k139_152 : am_cd am_x 139 152 = some (.ldc2_w 128, 3, 0, 0, .long 57) := by decide +kernel
theorem k139_155 : am_cd am_x 139 155 = some (.invokestatic 60, 3, 125, 0, .null) := by decide +kernel
theorem k139_158 : am_cd am_x 139 158 = some (.ifCond .eq 59, 3, 217, 0, .null) := by decide +kernel
theorem k139_161 : am_cd am_x 139 161 = some (.aload_n 0, 1, 0, 0, .null) := by decide +kernel
theorem k139_162 : am_cd am_x 139 162 = some (.aload_n 0, 1, 0, 0, .null) := by decide +kernel
theorem k139_163 : am_cd am_x 139 163 = some (.getfield 106, 3, 8, 13, .null) := by decide +kernel
theorem k139_166 : am_cd am_x 139 166 = some (.aload_n 0, 1, 0, 0, .null) := by decide +kernel
theorem k139_167 : am_cd am_x 139 167 = some (.getfield 100, 3, 8, 14, .null) := by decide +kernel
theorem k139_170 : am_cd am_x 139 170 = some (.isub, 1, 0, 0, .null) := by decide +kernel
theorem k139_171 : am_cd am_x 139 171 = some (.iconst 4, 1, 0, 0, .null) := by decide +kernel
theorem k139_172 : am_cd am_x 139 172 = some (.if_icmp .ge 25, 3, 197, 0, .null) := by decide +kernel
theorem k139_175 : am_cd am_x 139 175 = some (.bipush 10, 2, 0, 0, .null) := by decide +kernel
theorem k139_177 : am_cd am_x 139 177 = some (.aload_n 0, 1, 0, 0, .null) := by decide +kernel
theorem k139_178 : am_cd am_x 139 178 = some (.getfield 130, 3, 8, 16, .null) := by decide +kernel
theorem k139_181 : am_cd am_x 139 181 = some (.imul, 1, 0, 0, .null) := by decide +kernel
theorem k139_182 : am_cd am_x 139 182 = some (.aload_n 0, 1, 0, 0, .null) := by decide +kernel
theorem k139_183 : am_cd am_x 139 183 = some (.aload_n 0, 1, 0, 0, .null) := by decide +kernel
theorem k139_184 : am_cd am_x 139 184 = some (.getfield 106, 3, 8, 13, .null) := by decide +kernel
theorem k139_187 : am_cd am_x 139 187 = some (.invokevirtual 109, 3, 135, 8, .null) := by decide +kernel
theorem k139_190 : am_cd am_x 139 190 = some (.iadd, 1, 0, 0, .null) := by decide +kernel
theorem k139_191 : am_cd am_x 139 191 = some (.bipush 48, 2, 0, 0, .null) := by decide +kernel
theorem k139_193 : am_cd am_x 139 193 = some (.isub, 1, 0, 0, .null) := by decide +kernel
theorem k139_194 : am_cd am_x 139 194 = some (.goto 7, 3, 201, 0, .null) := by decide +kernel
theorem k139_197 : am_cd am_x 139 197 = some (.aload_n 0, 1, 0, 0, .null) := by decide +kernel
theorem k139_198 : am_cd am_x 139 198 = some (.getfield 130, 3, 8, 16, .null) := by decide +kernel
theorem k139_201 : am_cd am_x 139 201 = some (.putfield 130, 3, 8, 16, .int 0) := by decide +kernel
theorem k139_204 : am_cd am_x 139 204 = some (.aload_n 0, 1, 0, 0, .null) := by decide +kernel
theorem k139_205 : am_cd am_x 139 205 = some (.dup, 1, 0, 0, .null) := by decide +kernel
theorem k139_206 : am_cd am_x 139 206 = some (.getfield 106, 3, 8, 13, .null) := by decide +kernel
theorem k139_209 : am_cd am_x 139 209 = some (.iconst 1, 1, 0, 0, .null) := by decide +kernel
theorem k139_210 : am_cd am_x 139 210 = some (.iadd, 1, 0, 0, .null) := by decide +kernel
theorem k139_211 : am_cd am_x 139 211 = some (.putfield 106, 3, 8, 13, .int 0) := by decide +kernel
theorem k139_214 : am_cd am_x 139 214 = some (.goto (-74), 3, 140, 0, .null) := by decide +kernel
theorem k139_217 : am_cd am_x 139 217 = some (.aload_n 0, 1, 0, 0, .null) := by decide +kernel
theorem k139_218 : am_cd am_x 139 218 = some (.aload_n 0, 1, 0, 0, .null) := by decide +kernel
theorem k139_219 : am_cd am_x 139 219 = some (.getfield 106, 3, 8, 13, .null) := by decide +kernel
theorem k139_222 : am_cd am_x 139 222 = some (.aload_n 0, 1, 0, 0, .null) := by decide +kernel
theorem k139_223 : am_cd am_x 139 223 = some (.getfield 100, 3, 8, 14, .null) := by decide +kernel
theorem k139_226 : am_cd am_x 139 226 = some (.isub, 1, 0, 0, .null) := by decide +kernel
theorem k139_227 : am_cd am_x 139 227 = some (.iconst 4, 1, 0, 0, .null) := by decide +kernel
theorem k139_228 : am_cd am_x 139 228 = some (.if_icmp .gt 7, 3, 235, 0, .null) := by decide +kernel
theorem k139_231 : am_cd am_x 139 231 = some (.iconst 1, 1, 0, 0, .null) := by decide +kernel
theorem k139_232 : am_cd am_x 139 232 = some (.goto 4, 3, 236, 0, .null) := by decide +kernel
theorem k139_235 : am_cd am_x 139 235 = some (.iconst 0, 1, 0, 0, .null) := by decide +kernel
theorem k139_236 : am_cd am_x 139 236 = some (.iconst 1, 1, 0, 0, .null) := by decide +kernel
theorem k139_237 : am_cd am_x 139 237 = some (.invokevirtual 133, 3, 134, 8, .null) := by decide +kernel
theorem k139_240 : am_cd am_x 139 240 = some (.goto 34, 3, 274, 0, .null) := by decide +kernel
theorem k139_243 : am_cd am_x 139 243 = some (.aload_n 0, 1, 0, 0, .null) := by decide +kernel
theorem k139_244 : am_cd am_x 139 244 = some (.iconst 3, 1, 0, 0, .null) := by decide +kernel
theorem k139_245 : am_cd am_x 139 245 = some (.putfield 119, 3, 8, 15, .int 0) := by decide +kernel
theorem k139_248 : am_cd am_x 139 248 = some (.aload_n 0, 1, 0, 0, .null) := by decide +kernel
theorem k139_249 : am_cd am_x 139 249 = some (.iload_n 1, 1, 0, 0, .null) := by decide +kernel
theorem k139_250 : am_cd am_x 139 250 = some (.bipush 59, 2, 0, 0, .null) := by decide +kernel
theorem k139_252 : am_cd am_x 139 252 = some (.if_icmp .ne 7, 3, 259, 0, .null) := by decide +kernel
theorem k139_255 : am_cd am_x 139 255 = some (.iconst 1, 1, 0, 0, .null) := by decide +kernel
theorem k139_256 : am_cd am_x 139 256 = some (.goto 4, 3, 260, 0, .null) := by decide +kernel
theorem k139_259 : am_cd am_x 139 259 = some (.iconst 0, 1, 0, 0, .null) := by decide +kernel
theorem k139_260 : am_cd am_x 139 260 = some (.iconst 1, 1, 0, 0, .null) := by decide +kernel
theorem k139_261 : am_cd am_x 139 261 = some (.invokevirtual 133, 3, 134, 8, .null) := by decide +kernel
theorem k139_264 : am_cd am_x 139 264 = some (.aload_n 0, 1, 0, 0, .null) := by decide +kernel
theorem k139_265 : am_cd am_x 139 265 = some (.dup, 1, 0, 0, .null) := by decide +kernel
theorem k139_266 : am_cd am_x 139 266 = some (.getfield 106, 3, 8, 13, .null) := by decide +kernel
theorem k139_269 : am_cd am_x 139 269 = some (.iconst 1, 1, 0, 0, .null) := by decide +kernel
theorem k139_270 : am_cd am_x 139 270 = some (.iadd, 1, 0, 0, .null) := by decide +kernel
theorem k139_271 : am_cd am_x 139 271 = some (.putfield 106, 3, 8, 13, .int 0) := by decide +kernel
theorem k139_274 : am_cd am_x 139 274 = some (.return_, 1, 0, 0, .null) := by decide +kernel
theorem k140_0 : am_cd am_x 140 0 = some (.aload_n 0, 1, 0, 0, .null) := by decide +kernel
theorem k140_1 : am_cd am_x 140 1 = some (.getfield 97, 3, 8, 17, .null) := by decide +kernel
theorem k140_4 : am_cd am_x 140 4 = some (.ifCond .ne 21, 3, 25, 0, .null) := by decide +kernel
theorem k140_7 : am_cd am_x 140 7 = some (.aload_n 0, 1, 0, 0, .null) := by decide +kernel
theorem k140_8 : am_cd am_x 140 8 = some (.aload_n 0, 1, 0, 0, .null) := by decide +kernel
theorem k140_9 : am_cd am_x 140 9 = some (.getfield 119, 3, 8, 15, .null) := by decide +kernel
theorem k140_12 : am_cd am_x 140 12 = some (.iconst 2, 1, 0, 0, .null) := by decide +kernel
theorem k140_13 : am_cd am_x 140 13 = some (.if_icmp .ne 7, 3, 20, 0, .null) := by decide +kernel
theorem k140_16 : am_cd am_x 140 16 = some (.iconst 1, 1, 0, 0, .null) := by decide +kernel
theorem k140_17 : am_cd am_x 140 17 = some (.goto 4, 3, 21, 0, .null) := by decide +kernel
theorem k140_20 : am_cd am_x 140 20 = some (.iconst 0, 1, 0, 0, .null) := by decide +kernel
theorem k140_21 : am_cd am_x 140 21 = some (.iconst 2, 1, 0, 0, .null) := by decide +kernel
theorem k140_22 : am_cd am_x 140 22 = some (.invokevirtual 133, 3, 134, 8, .null) := by decide +kernel
theorem k140_25 : am_cd am_x 140 25 = some (.aload_n 0, 1, 0, 0, .null) := by decide +kernel
theorem k140_26 : am_cd am_x 140 26 = some (.getfield 97, 3, 8, 17, .null) := by decide +kernel
theorem k140_29 : am_cd am_x 140 29 = some (.ifCond .ne 20, 3, 49, 0, .null) := by decide +kernel
theorem k140_32 : am_cd am_x 140 32 = some (.aload_n 0, 1, 0, 0, .null) := by decide +kernel
theorem k140_33 : am_cd am_x 140 33 = some (.aload_n 0, 1, 0, 0, .null) := by decide +kernel
theorem k140_34 : am_cd am_x 140 34 = some (.getfield 130, 3, 8, 16, .null) := by decide +kernel
theorem k140_37 : am_cd am_x 140 37 = some (.i2l, 1, 0, 0, .null) := by decide +kernel
theorem k140_38 : am_cd am_x 140 38 = some (.iload_n 1, 1, 0, 0, .null) := by decide +kernel
theorem k140_39 : am_cd am_x 140 39 = some (.i2l, 1, 0, 0, .null) := by decide +kernel
theorem k140_40 : am_cd am_x 140 40 = some (.iload_n 2, 1, 0, 0, .null) := by decide +kernel
theorem k140_41 : am_cd am_x 140 41 = some (.i2l, 1, 0, 0, .null) := by decide +kernel
theorem k140_42 : am_cd am_x 140 42 = some (.invokestatic 60, 3, 125, 0, .null) := by decide +kernel
theorem k140_45 : am_cd am_x 140 45 = some (.iconst 3, 1, 0, 0, .null) := by decide +kernel
theorem k140_46 : am_cd am_x 140 46 = some (.invokevirtual 133, 3, 134, 8, .null) := by decide +kernel
theorem k140_49 : am_cd am_x 140 49 = some (.aload_n 0, 1, 0, 0, .null) := by decide +kernel
theorem k140_50 : am_cd am_x 140 50 = some (.getfield 97, 3, 8, 17, .null) := by decide +kernel
theorem k140_53 : am_cd am_x 140 53 = some (.ifCond .ne 10, 3, 63, 0, .null) := by decide +kernel
theorem k140_56 : am_cd am_x 140 56 = some (.aload_n 0, 1, 0, 0, .null) := by decide +kernel
theorem k140_57 : am_cd am_x 140 57 = some (.getfield 130, 3, 8, 16, .null) := by decide +kernel
theorem k140_60 : am_cd am_x 140 60 = some (.goto 4, 3, 64, 0, .null) := by decide +kernel
theorem k140_63 : am_cd am_x 140 63 = some (.iconst 0, 1, 0, 0, .null) := by decide +kernel
theorem k140_64 : am_cd am_x 140 64 = some (.istore_n 3, 1, 0, 0, .null) := by decide +kernel
theorem k140_65 : am_cd am_x 140 65 = some (.aload_n 0, 1, 0, 0, .null) := by decide +kernel
theorem k140_66 : am_cd am_x 140 66 = some (.invokevirtual 137, 3, 139, 8, .null) := by decide +kernel
theorem k140_69 : am_cd am_x 140 69 = some (.iload_n 3, 1, 0, 0, .null) := by decide +kernel
theorem k140_70 : am_cd am_x 140 70 = some (.ireturn, 1, 0, 0, .null) := by decide +kernel
theorem k141_0 : am_cd am_x 141 0 = some (.aload_n 0, 1, 0, 0, .null) := by decide +kernel
theorem k141_1 : am_cd am_x 141 1 = some (.iconst 0, 1, 0, 0, .null) := by decide +kernel
theorem k141_2 : am_cd am_x 141 2 = some (.bipush 7, 2, 0, 0, .null) := by decide +kernel
theorem k141_4 : am_cd am_x 141 4 = some (.invokevirtual 140, 3, 140, 8, .null) := by decide +kernel
theorem k141_7 : am_cd am_x 141 7 = some (.istore_n 1, 1, 0, 0, .null) := by decide +kernel
theorem k141_8 : am_cd am_x 141 8 = some (.aload_n 0, 1, 0, 0, .null) := by decide +kernel
theorem k141_9 : am_cd am_x 141 9 = some (.iload_n 1, 1, 0, 0, .null) := by decide +kernel
theorem k141_10 : am_cd am_x 141 10 = some (.aload_n 0, 1, 0, 0, .null) := by decide +kernel
theorem k141_11 : am_cd am_x 141 11 = some (.getfield 77, 3, 8, 7, .null) := by decide +kernel
theorem k141_14 : am_cd am_x 141 14 = some (.if_icmp .le 7, 3, 21, 0, .null) := by decide +kernel
theorem k141_17 : am_cd am_x 141 17 = some (.iload_n 1, 1, 0, 0, .null) := by decide +kernel
theorem k141_18 : am_cd am_x 141 18 = some (.goto 7, 3, 25, 0, .null) := by decide +kernel
theorem k141_21 : am_cd am_x 141 21 = some (.aload_n 0, 1, 0, 0, .null) := by decide +kernel
theorem k141_22 : am_cd am_x 141 22 = some (.getfield 77, 3, 8, 7, .null) := by decide +kernel
theorem k141_25 : am_cd am_x 141 25 = some (.putfield 77, 3, 8, 7, .int 0) := by decide +kernel
theorem k141_28 : am_cd am_x 141 28 = some (.aload_n 0, 1, 0, 0, .null) := by decide +kernel
theorem k141_29 : am_cd am_x 141 29 = some (.iconst 1, 1, 0, 0, .null) := by decide +kernel
theorem k141_30 : am_cd am_x 141 30 = some (.putfield 74, 3, 8, 10, .int 1) := by decide +kernel
theorem k141_33 : am_cd am_x 141 33 = some (.iload_n 1, 1, 0, 0, .null) := by decide +kernel
theorem k141_34 : am_cd am_x 141 34 = some (.ireturn, 1, 0, 0, .null) := by decide +kernel
theorem k142_0 : am_cd am_x 142 0 = some (.aload_n 0, 1, 0, 0, .null) := by decide +kernel
theorem k142_1 : am_cd am_x 142 1 = some (.iconst 0, 1, 0, 0, .null) := by decide +kernel
theorem k142_2 : am_cd am_x 142 2 = some (.bipush 7, 2, 0, 0, .null) := by decide +kernel
theorem k142_4 : am_cd am_x 142 4 = some (.invokevirtual 140, 3, 140, 8, .null) := by decide +kernel
theorem k142_7 : am_cd am_x 142 7 = some (.istore_n 1, 1, 0, 0, .null) := by decide +kernel
theorem k142_8 : am_cd am_x 142 8 = some (.aload_n 0, 1, 0, 0, .null) := by decide +kernel
theorem k142_9 : am_cd am_x 142 9 = some (.iload_n 1, 1, 0, 0, .null) := by decide +kernel
theorem k142_10 : am_cd am_x 142 10 = some (.aload_n 0, 1, 0, 0, .null) := by decide +kernel
theorem k142_11 : am_cd am_x 142 11 = some (.getfield 84, 3, 8, 9, .null) := by decide +kernel
theorem k142_14 : am_cd am_x 142 14 = some (.if_icmp .le 7, 3, 21, 0, .null) := by decide +kernel
theorem k142_17 : am_cd am_x 142 17 = some (.iload_n 1, 1, 0, 0, .null) := by decide +kernel
theorem k142_18 : am_cd am_x 142 18 = some (.goto 7, 3, 25, 0, .null) := by decide +kernel
theorem k142_21 : am_cd am_x 142 21 = some (.aload_n 0, 1, 0, 0, .null) := by decide +kernel
theorem k142_22 : am_cd am_x 142 22 = some (.getfield 84, 3, 8, 9, .null) := by decide +kernel
theorem k142_25 : am_cd am_x 142 25 = some (.putfield 84, 3, 8, 9, .int 0) := by decide +kernel
theorem k142_28 : am_cd am_x 142 28 = some (.iload_n 1, 1, 0, 0, .null) := by decide +kernel
theorem k142_29 : am_cd am_x 142 29 = some (.ireturn, 1, 0, 0, .null) := by decide +kernel
theorem k143_0 : am_cd am_x 143 0 = some (.aload_n 0, 1, 0, 0, .null) := by decide +kernel
theorem k143_1 : am_cd am_x 143 1 = some (.invokevirtual 144, 3, 141, 8, .null) := by decide +kernel
theorem k143_4 : am_cd am_x 143 4 = some (.istore_n 1, 1, 0, 0, .null) := by decide +kernel
theorem k143_5 : am_cd am_x 143 5 = some (.aload_n 0, 1, 0, 0, .null) := by decide +kernel
theorem k143_6 : am_cd am_x 143 6 = some (.iconst 0, 1, 0, 0, .null) := by decide +kernel
theorem k143_7 : am_cd am_x 143 7 = some (.bipush 7, 2, 0, 0, .null) := by decide +kernel
theorem k143_9 : am_cd am_x 143 9 = some (.invokevirtual 140, 3, 140, 8, .null) := by decide +kernel
theorem k143_12 : am_cd am_x 143 12 = some (.istore_n 2, 1, 0, 0, .null) := by decide +kernel
theorem k143_13 : am_cd am_x 143 13 = some (.aload_n 0, 1, 0, 0, .null) := by decide +kernel
theorem k143_14 : am_cd am_x 143 14 = some (.iload_n 2, 1, 0, 0, .null) := by decide +kernel
theorem k143_15 : am_cd am_x 143 15 = some (.aload_n 0, 1, 0, 0, .null) := by decide +kernel
theorem k143_16 : am_cd am_x 143 16 = some (.getfield 81, 3, 8, 8, .null) := by decide +kernel
theorem k143_19 : am_cd am_x 143 19 = some (.if_icmp .le 7, 3, 26, 0, .null) := by decide +kernel
theorem k143_22 : am_cd am_x 143 22 = some (.iload_n 2, 1, 0, 0, .null) := by decide +kernel
theorem k143_23 : am_cd am_x 143 23 = some (.goto 7, 3, 30, 0, .null) := by decide +kernel
theorem k143_26 : am_cd am_x 143 26 = some (.aload_n 0, 1, 0, 0, .null) := by decide +kernel
theorem k143_27 : am_cd am_x 143 27 = some (.getfield 81, 3, 8, 8, .null) := by decide +kernel
theorem k143_30 : am_cd am_x 143 30 = some (.putfield 81, 3, 8, 8, .int 0) := by decide +kernel
theorem k143_33 : am_cd am_x 143 33 = some (.aload_n 0, 1, 0, 0, .null) := by decide +kernel
theorem k143_34 : am_cd am_x 143 34 = some (.getfield 20, 3, 8, 3, .null) := by decide +kernel
theorem k143_37 : am_cd am_x 143 37 = some (.bipush 7, 2, 0, 0, .null) := by decide +kernel
theorem k143_39 : am_cd am_x 143 39 = some (.bipush 8, 2, 0, 0, .null) := by decide +kernel
theorem k143_41 : am_cd am_x 143 41 = some (.iload_n 1, 1, 0, 0, .null) := by decide +kernel
theorem k143_42 : am_cd am_x 143 42 = some (.imul, 1, 0, 0, .null) := by decide +kernel
theorem k143_43 : am_cd am_x 143 43 = some (.iadd, 1, 0, 0, .null) := by decide +kernel
theorem k143_44 : am_cd am_x 143 44 = some (.iload_n 2, 1, 0, 0, .null) := by decide +kernel
theorem k143_45 : am_cd am_x 143 45 = some (.iadd, 1, 0, 0, .null) := by decide +kernel
theorem k143_46 : am_cd am_x 143 46 = some (.aload_n 0, 1, 0, 0, .null) := by decide +kernel
theorem k143_47 : am_cd am_x 143 47 = some (.iconst 0, 1, 0, 0, .null) := by decide +kernel
theorem k143_48 : am_cd am_x 143 48 = some (.iconst 2, 1, 0, 0, .null) := by decide +kernel
theorem k143_49 : am_cd am_x 143 49 = some (.invokevirtual 140, 3, 140, 8, .null) := by decide +kernel
theorem k143_52 : am_cd am_x 143 52 = some (.iastore, 1, 0, 0, .null) := by decide +kernel
theorem k143_53 : am_cd am_x 143 53 = some (.return_, 1, 0, 0, .null) := by decide +kernel
theorem k144_0 : am_cd am_x 144 0 = some (.aload_n 0, 1, 0, 0, .null) := by decide +kernel
theorem k144_1 : am_cd am_x 144 1 = some (.invokevirtual 144, 3, 141, 8, .null) := by decide +kernel
theorem k144_4 : am_cd am_x 144 4 = some (.istore_n 1, 1, 0, 0, .null) := by decide +kernel
theorem k144_5 : am_cd am_x 144 5 = some (.aload_n 0, 1, 0, 0, .null) := by decide +kernel
theorem k144_6 : am_cd am_x 144 6 = some (.getfield 20, 3, 8, 3, .null) := by decide +kernel
theorem k144_9 : am_cd am_x 144 9 = some (.sipush 135, 3, 0, 0, .null) := by decide +kernel
theorem k144_12 : am_cd am_x 144 12 = some (.iload_n 1, 1, 0, 0, .null) := by decide +kernel
theorem k144_13 : am_cd am_x 144 13 = some (.iadd, 1, 0, 0, .null) := by decide +kernel
theorem k144_14 : am_cd am_x 144 14 = some (.dup2, 1, 0, 0, .null) := by decide +kernel
theorem k144_15 : am_cd am_x 144 15 = some (.iaload, 1, 0, 0, .null) := by decide +kernel
theorem k144_16 : am_cd am_x 144 16 = some (.iconst 1, 1, 0, 0, .null) := by decide +kernel
theorem k144_17 : am_cd am_x 144 17 = some (.aload_n 0, 1, 0, 0, .null) := by decide +kernel
theorem k144_18 : am_cd am_x 144 18 = some (.invokevirtual 148, 3, 142, 8, .null) := by decide +kernel
theorem k144_21 : am_cd am_x 144 21 = some (.ishl, 1, 0, 0, .null) := by decide +kernel
theorem k144_22 : am_cd am_x 144 22 = some (.ior, 1, 0, 0, .null) := by decide +kernel
theorem k144_23 : am_cd am_x 144 23 = some (.iastore, 1, 0, 0, .null) := by decide +kernel
theorem k144_24 : am_cd am_x 144 24 = some (.aload_n 0, 1, 0, 0, .null) := by decide +kernel
theorem k144_25 : am_cd am_x 144 25 = some (.getfield 97, 3, 8, 17, .null) := by decide +kernel
theorem k144_28 : am_cd am_x 144 28 = some (.ifCond .ne 33, 3, 61, 0, .null) := by decide +kernel
theorem k144_31 : am_cd am_x 144 31 = some (.aload_n 0, 1, 0, 0, .null) := by decide +kernel
theorem k144_32 : am_cd am_x 144 32 = some (.getfield 119, 3, 8, 15, .null) := by decide +kernel
theorem k144_35 : am_cd am_x 144 35 = some (.iconst 2, 1, 0, 0, .null) := by decide +kernel
theorem k144_36 : am_cd am_x 144 36 = some (.if_icmp .ne 25, 3, 61, 0, .null) := by decide +kernel
theorem k144_39 : am_cd am_x 144 39 = some (.aload_n 0, 1, 0, 0, .null) := by decide +kernel
theorem k144_40 : am_cd am_x 144 40 = some (.getfield 20, 3, 8, 3, .null) := by decide +kernel
theorem k144_43 : am_cd am_x 144 43 = some (.sipush 135, 3, 0, 0, .null) := by decide +kernel
theorem k144_46 : am_cd am_x 144 46 = some (.iload_n 1, 1, 0, 0, .null) := by decide +kernel
theorem k144_47 : am_cd am_x 144 47 = some (.iadd, 1, 0, 0, .null) := by decide +kernel
theorem k144_48 : am_cd am_x 144 48 = some (.dup2, 1, 0, 0, .null) := by decide +kernel
theorem k144_49 : am_cd am_x 144 49 = some (.iaload, 1, 0, 0, .null) := by decide +kernel
theorem k144_50 : am_cd am_x 144 50 = some (.iconst 1, 1, 0, 0, .null) := by decide +kernel
theorem k144_51 : am_cd am_x 144 51 = some (.aload_n 0, 1, 0, 0, .null) := by decide +kernel
theorem k144_52 : am_cd am_x 144 52 = some (.invokevirtual 148, 3, 142, 8, .null) := by decide +kernel
theorem k144_55 : am_cd am_x 144 55 = some (.ishl, 1, 0, 0, .null) := by decide +kernel
theorem k144_56 : am_cd am_x 144 56 = some (.ior, 1, 0, 0, .null) := by decide +kernel
theorem k144_57 : am_cd am_x 144 57 = some (.iastore, 1, 0, 0, .null) := by decide +kernel
theorem k144_58 : am_cd am_x 144 58 = some (.goto (-34), 3, 24, 0, .null) := by decide +kernel
theorem k144_61 : am_cd am_x 144 61 = some (.return_, 1, 0, 0, .null) := by decide +kernel
theorem k145_0 : am_cd am_x 145 0 = some (.aload_n 0, 1, 0, 0, .null) := by decide +kernel
theorem k145_1 : am_cd am_x 145 1 = some (.getfield 20, 3, 8, 3, .null) := by decide +kernel
theorem k145_4 : am_cd am_x 145 4 = some (.iconst 3, 1, 0, 0, .null) := by decide +kernel
theorem k145_5 : am_cd am_x 145 5 = some (.dup2, 1, 0, 0, .null) := by decide +kernel
theorem k145_6 : am_cd am_x 145 6 = some (.iaload, 1, 0, 0, .null) := by decide +kernel
theorem k145_7 : am_cd am_x 145 7 = some (.iconst 1, 1, 0, 0, .null) := by decide +kernel
theorem k145_8 : am_cd am_x 145 8 = some (.aload_n 0, 1, 0, 0, .null) := by decide +kernel
theorem k145_9 : am_cd am_x 145 9 = some (.invokevirtual 144, 3, 141, 8, .null) := by decide +kernel
theorem k145_12 : am_cd am_x 145 12 = some (.ishl, 1, 0, 0, .null) := by decide +kernel
theorem k145_13 : am_cd am_x 145 13 = some (.ior, 1, 0, 0, .null) := by decide +kernel
theorem k145_14 : am_cd am_x 145 14 = some (.iastore, 1, 0, 0, .null) := by decide +kernel
theorem k145_15 : am_cd am_x 145 15 = some (.aload_n 0, 1, 0, 0, .null) := by decide +kernel
theorem k145_16 : am_cd am_x 145 16 = some (.getfield 97, 3, 8, 17, .null) := by decide +kernel
theorem k145_19 : am_cd am_x 145 19 = some (.ifCond .ne 29, 3, 48, 0, .null) := by decide +kernel
theorem k145_22 : am_cd am_x 145 22 = some (.aload_n 0, 1, 0, 0, .null) := by decide +kernel
theorem k145_23 : am_cd am_x 145 23 = some (.getfield 119, 3, 8, 15, .null) := by decide +kernel
theorem k145_26 : am_cd am_x 145 26 = some (.iconst 2, 1, 0, 0, .null) := by decide +kernel
theorem k145_27 : am_cd am_x 145 27 = some (.if_icmp .ne 21, 3, 48, 0, .null) := by decide +kernel
theorem k145_30 : am_cd am_x 145 30 = some (.aload_n 0, 1, 0, 0, .null) := by decide +kernel
theorem k145_31 : am_cd am_x 145 31 = some (.getfield 20, 3, 8, 3, .null) := by decide +kernel
theorem k145_34 : am_cd am_x 145 34 = some (.iconst 3, 1, 0, 0, .null) := by decide +kernel
theorem k145_35 : am_cd am_x 145 35 = some (.dup2, 1, 0, 0, .null) := by decide +kernel
theorem k145_36 : am_cd am_x 145 36 = some (.iaload, 1, 0, 0, .null) := by decide +kernel
theorem k145_37 : am_cd am_x 145 37 = some (.iconst 1, 1, 0, 0, .null) := by decide +kernel
theorem k145_38 : am_cd am_x 145 38 = some (.aload_n 0, 1, 0, 0, .null) := by decide +kernel
theorem k145_39 : am_cd am_x 145 39 = some (.invokevirtual 144, 3, 141, 8, .null) := by decide +kernel
theorem k145_42 : am_cd am_x 145 42 = some (.ishl, 1, 0, 0, .null) := by decide +kernel
theorem k145_43 : am_cd am_x 145 43 = some (.ior, 1, 0, 0, .null) := by decide +kernel
theorem k145_44 : am_cd am_x 145 44 = some (.iastore, 1, 0, 0, .null) := by decide +kernel
theorem k145_45 : am_cd am_x 145 45 = some (.goto (-30), 3, 15, 0, .null) := by decide +kernel
theorem k145_48 : am_cd am_x 145 48 = some (.return_, 1, 0, 0, .null) := by decide +kernel
theorem k146_0 : am_cd am_x 146 0 = some (.iload_n 1, 1, 0, 0, .null) := by decide +kernel
theorem k146_1 : am_cd am_x 146 1 = some (.tableswitch 139 0 4 #[35, 77, 84, 91, 121], 35, 0, 0, .null) := by decide +kernel
theorem k146_36 : am_cd am_x 146 36 = some (.aload_n 0, 1, 0, 0, .null) := by decide +kernel
theorem k146_37 : am_cd am_x 146 37 = some (.getfield 20, 3, 8, 3, .null) := by decide +kernel
theorem k146_40 : am_cd am_x 146 40 = some (.iconst 0, 1, 0, 0, .null) := by decide +kernel
theorem k146_41 : am_cd am_x 146 41 = some (.aload_n 0, 1, 0, 0, .null) := by decide +kernel
theorem k146_42 : am_cd am_x 146 42 = some (.iconst 1, 1, 0, 0, .null) := by decide +kernel
theorem k146_43 : am_cd am_x 146 43 = some (.bipush 8, 2, 0, 0, .null) := by decide +kernel
theorem k146_45 : am_cd am_x 146 45 = some (.invokevirtual 140, 3, 140, 8, .null) := by decide +kernel
theorem k146_48 : am_cd am_x 146 48 = some (.iastore, 1, 0, 0, .null) := by decide +kernel
theorem k146_49 : am_cd am_x 146 49 = some (.aload_n 0, 1, 0, 0, .null) := by decide +kernel
theorem k146_50 : am_cd am_x 146 50 = some (.getfield 20, 3, 8, 3, .null) := by decide +kernel
theorem k146_53 : am_cd am_x 146 53 = some (.iconst 1, 1, 0, 0, .null) := by decide +kernel
theorem k146_54 : am_cd am_x 146 54 = some (.aload_n 0, 1, 0, 0, .null) := by decide +kernel
theorem k146_55 : am_cd am_x 146 55 = some (.iconst 1, 1, 0, 0, .null) := by decide +kernel
theorem k146_56 : am_cd am_x 146 56 = some (.bipush 8, 2, 0, 0, .null) := by decide +kernel
theorem k146_58 : am_cd am_x 146 58 = some (.invokevirtual 140, 3, 140, 8, .null) := by decide +kernel
theorem k146_61 : am_cd am_x 146 61 = some (.iastore, 1, 0, 0, .null) := by decide +kernel
theorem k146_62 : am_cd am_x 146 62 = some (.aload_n 0, 1, 0, 0, .null) := by decide +kernel
theorem k146_63 : am_cd am_x 146 63 = some (.getfield 20, 3, 8, 3, .null) := by decide +kernel
theorem k146_66 : am_cd am_x 146 66 = some (.iconst 2, 1, 0, 0, .null) := by decide +kernel
theorem k146_67 : am_cd am_x 146 67 = some (.aload_n 0, 1, 0, 0, .null) := by decide +kernel
theorem k146_68 : am_cd am_x 146 68 = some (.iconst 1, 1, 0, 0, .null) := by decide +kernel
theorem k146_69 : am_cd am_x 146 69 = some (.bipush 8, 2, 0, 0, .null) := by decide +kernel
theorem k146_71 : am_cd am_x 146 71 = some (.invokevirtual 140, 3, 140, 8, .null) := by decide +kernel
theorem k146_74 : am_cd am_x 146 74 = some (.iastore, 1, 0, 0, .null) := by decide +kernel
theorem k146_75 : am_cd am_x 146 75 = some (.goto 69, 3, 144, 0, .null) := by decide +kernel
theorem k146_78 : am_cd am_x 146 78 = some (.aload_n 0, 1, 0, 0, .null) := by decide +kernel
theorem k146_79 : am_cd am_x 146 79 = some (.invokevirtual 151, 3, 144, 8, .null) := by decide +kernel
theorem k146_82 : am_cd am_x 146 82 = some (.goto 62, 3, 144, 0, .null) := by decide +kernel
theorem k146_85 : am_cd am_x 146 85 = some (.aload_n 0, 1, 0, 0, .null) := by decide +kernel
theorem k146_86 : am_cd am_x 146 86 = some (.invokevirtual 154, 3, 145, 8, .null) := by decide +kernel
theorem k146_89 : am_cd am_x 146 89 = some (.goto 55, 3, 144, 0, .null) := by decide +kernel
theorem k146_92 : am_cd am_x 146 92 = some (.aload_n 0, 1, 0, 0, .null) := by decide +kernel
theorem k146_93 : am_cd am_x 146 93 = some (.getfield 20, 3, 8, 3, .null) := by decide +kernel
theorem k146_96 : am_cd am_x 146 96 = some (.iconst 4, 1, 0, 0, .null) := by decide +kernel
theorem k146_97 : am_cd am_x 146 97 = some (.aload_n 0, 1, 0, 0, .null) := by decide +kernel
theorem k146_98 : am_cd am_x 146 98 = some (.iconst 1, 1, 0, 0, .null) := by decide +kernel
theorem k146_99 : am_cd am_x 146 99 = some (.bipush 12, 2, 0, 0, .null) := by decide +kernel
theorem k146_101 : am_cd am_x 146 101 = some (.invokevirtual 140, 3, 140, 8, .null) := by decide +kernel
theorem k146_104 : am_cd am_x 146 104 = some (.iastore, 1, 0, 0, .null) := by decide +kernel
theorem k146_105 : am_cd am_x 146 105 = some (.aload_n 0, 1, 0, 0, .null) := by decide +kernel
theorem k146_106 : am_cd am_x 146 106 = some (.getfield 20, 3, 8, 3, .null) := by decide +kernel
theorem k146_109 : am_cd am_x 146 109 = some (.iconst 5, 1, 0, 0, .null) := by decide +kernel
theorem k146_110 : am_cd am_x 146 110 = some (.aload_n 0, 1, 0, 0, .null) := by decide +kernel
theorem k146_111 : am_cd am_x 146 111 = some (.iconst 0, 1, 0, 0, .null) := by decide +kernel
theorem k146_112 : am_cd am_x 146 112 = some (.sipush 4095, 3, 0, 0, .null) := by decide +kernel
theorem k146_115 : am_cd am_x 146 115 = some (.invokevirtual 140, 3, 140, 8, .null) := by decide +kernel
theorem k146_118 : am_cd am_x 146 118 = some (.iastore, 1, 0, 0, .null) := by decide +kernel
theorem k146_119 : am_cd am_x 146 119 = some (.goto 25, 3, 144, 0, .null) := by decide +kernel
theorem k146_122 : am_cd am_x 146 122 = some (.aload_n 0, 1, 0, 0, .null) := by decide +kernel
theorem k146_123 : am_cd am_x 146 123 = some (.getfield 20, 3, 8, 3, .null) := by decide +kernel
theorem k146_126 : am_cd am_x 146 126 = some (.bipush 6, 2, 0, 0, .null) := by decide +kernel
theorem k146_128 : am_cd am_x 146 128 = some (.aload_n 0, 1, 0, 0, .null) := by decide +kernel
theorem k146_129 : am_cd am_x 146 129 = some (.iconst 0, 1, 0, 0, .null) := by decide +kernel
theorem k146_130 : am_cd am_x 146 130 = some (.sipush 255, 3, 0, 0, .null) := by decide +kernel
theorem k146_133 : am_cd am_x 146 133 = some (.invokevirtual 140, 3, 140, 8, .null) := by decide +kernel
theorem k146_136 : am_cd am_x 146 136 = some (.iastore, 1, 0, 0, .null) := by decide +kernel
theorem k146_137 : am_cd am_x 146 137 = some (.goto 7, 3, 144, 0, .null) := by decide +kernel
theorem k146_140 : am_cd am_x 146 140 = some (.aload_n 0, 1, 0, 0, .null) := by decide +kernel
theorem k146_141 : am_cd am_x 146 141 = some (.invokevirtual 157, 3, 143, 8, .null) := by decide +kernel
theorem k146_144 : am_cd am_x 146 144 = some (.return_, 1, 0, 0, .null) := by decide +kernel
theorem k147_0 : am_cd am_x 147 0 = some (.aload_n 0, 1, 0, 0, .null) := by decide +kernel
theorem k147_1 : am_cd am_x 147 1 = some (.getfield 119, 3, 8, 15, .null) := by decide +kernel
theorem k147_4 : am_cd am_x 147 4 = some (.iconst 1, 1, 0, 0, .null) := by decide +kernel
theorem k147_5 : am_cd am_x 147 5 = some (.if_icmp .ne 10, 3, 15, 0, .null) := by decide +kernel
theorem k147_8 : am_cd am_x 147 8 = some (.aload_n 0, 1, 0, 0, .null) := by decide +kernel
theorem k147_9 : am_cd am_x 147 9 = some (.invokevirtual 160, 3, 138, 8, .null) := by decide +kernel
theorem k147_12 : am_cd am_x 147 12 = some (.goto 5, 3, 17, 0, .null) := by decide +kernel
theorem k147_15 : am_cd am_x 147 15 = some (.bipush (-4), 2, 0, 0, .null) := by decide +kernel
theorem k147_17 : am_cd am_x 147 17 = some (.istore_n 1, 1, 0, 0, .null) := by decide +kernel
theorem k147_18 : am_cd am_x 147 18 = some (.aload_n 0, 1, 0, 0, .null) := by decide +kernel
theorem k147_19 : am_cd am_x 147 19 = some (.iload_n 1, 1, 0, 0, .null) := by decide +kernel
theorem k147_20 : am_cd am_x 147 20 = some (.bipush (-4), 2, 0, 0, .null) := by decide +kernel
theorem k147_22 : am_cd am_x 147 22 = some (.if_icmp .eq 7, 3, 29, 0, .null) := by decide +kernel
theorem k147_25 : am_cd am_x 147 25 = some (.iconst 1, 1, 0, 0, .null) := by decide +kernel
theorem k147_26 : am_cd am_x 147 26 = some (.goto 4, 3, 30, 0, .null) := by decide +kernel
theorem k147_29 : am_cd am_x 147 29 = some (.iconst 0, 1, 0, 0, .null) := by decide +kernel
theorem k147_30 : am_cd am_x 147 30 = some (.iconst 2, 1, 0, 0, .null) := by decide +kernel
theorem k147_31 : am_cd am_x 147 31 = some (.invokevirtual 133, 3, 134, 8, .null) := by decide +kernel
theorem k147_34 : am_cd am_x 147 34 = some (.aload_n 0, 1, 0, 0, .null) := by decide +kernel
theorem k147_35 : am_cd am_x 147 35 = some (.iload_n 1, 1, 0, 0, .null) := by decide +kernel
theorem k147_36 : am_cd am_x 147 36 = some (.ifCond .ne 10, 3, 46, 0, .null) := by decide +kernel
theorem k147_39 : am_cd am_x 147 39 = some (.aload_n 0, 1, 0, 0, .null) := by decide +kernel
theorem k147_40 : am_cd am_x 147 40 = some (.getfield 64, 3, 8, 4, .null) := by decide +kernel
theorem k147_43 : am_cd am_x 147 43 = some (.ifCond .ne 7, 3, 50, 0, .null) := by decide +kernel
theorem k147_46 : am_cd am_x 147 46 = some (.iconst 1, 1, 0, 0, .null) := by decide +kernel
theorem k147_47 : am_cd am_x 147 47 = some (.goto 4, 3, 51, 0, .null) := by decide +kernel
theorem k147_50 : am_cd am_x 147 50 = some (.iconst 0, 1, 0, 0, .null) := by decide +kernel
theorem k147_51 : am_cd am_x 147 51 = some (.iconst 4, 1, 0, 0, .null) := by decide +kernel
theorem k147_52 : am_cd am_x 147 52 = some (.invokevirtual 133, 3, 134, 8, .null) := by decide +kernel
theorem k147_55 : am_cd am_x 147 55 = some (.aload_n 0, 1, 0, 0, .null) := by decide +kernel
theorem k147_56 : am_cd am_x 147 56 = some (.iload_n 1, 1, 0, 0, .null) := by decide +kernel
theorem k147_57 : am_cd am_x 147 57 = some (.iconst 3, 1, 0, 0, .null) := by decide +kernel
theorem k147_58 : am_cd am_x 147 58 = some (.if_icmp .ne 10, 3, 68, 0, .null) := by decide +kernel
theorem k147_61 : am_cd am_x 147 61 = some (.aload_n 0, 1, 0, 0, .null) := by decide +kernel
theorem k147_62 : am_cd am_x 147 62 = some (.getfield 68, 3, 8, 5, .null) := by decide +kernel
theorem k147_65 : am_cd am_x 147 65 = some (.ifCond .ne 7, 3, 72, 0, .null) := by decide +kernel
theorem k147_68 : am_cd am_x 147 68 = some (.iconst 1, 1, 0, 0, .null) := by decide +kernel
theorem k147_69 : am_cd am_x 147 69 = some (.goto 4, 3, 73, 0, .null) := by decide +kernel
theorem k147_72 : am_cd am_x 147 72 = some (.iconst 0, 1, 0, 0, .null) := by decide +kernel
theorem k147_73 : am_cd am_x 147 73 = some (.iconst 4, 1, 0, 0, .null) := by decide +kernel
theorem k147_74 : am_cd am_x 147 74 = some (.invokevirtual 133, 3, 134, 8, .null) := by decide +kernel
theorem k147_77 : am_cd am_x 147 77 = some (.aload_n 0, 1, 0, 0, .null) := by decide +kernel
theorem k147_78 : am_cd am_x 147 78 = some (.iload_n 1, 1, 0, 0, .null) := by decide +kernel
theorem k147_79 : am_cd am_x 147 79 = some (.iconst 4, 1, 0, 0, .null) := by decide +kernel
theorem k147_80 : am_cd am_x 147 80 = some (.if_icmp .ne 10, 3, 90, 0, .null) := by decide +kernel
theorem k147_83 : am_cd am_x 147 83 = some (.aload_n 0, 1, 0, 0, .null) := by decide +kernel
theorem k147_84 : am_cd am_x 147 84 = some (.getfield 71, 3, 8, 6, .null) := by decide +kernel
theorem k147_87 : am_cd am_x 147 87 = some (.ifCond .ne 7, 3, 94, 0, .null) := by decide +kernel
theorem k147_90 : am_cd am_x 147 90 = some (.iconst 1, 1, 0, 0, .null) := by decide +kernel
theorem k147_91 : am_cd am_x 147 91 = some (.goto 4, 3, 95, 0, .null) := by decide +kernel
theorem k147_94 : am_cd am_x 147 94 = some (.iconst 0, 1, 0, 0, .null) := by decide +kernel
theorem k147_95 : am_cd am_x 147 95 = some (.iconst 4, 1, 0, 0, .null) := by decide +kernel
theorem k147_96 : am_cd am_x 147 96 = some (.invokevirtual 133, 3, 134, 8, .null) := by decide +kernel
theorem k147_99 : am_cd am_x 147 99 = some (.aload_n 0, 1, 0, 0, .null) := by decide +kernel
theorem k147_100 : am_cd am_x 147 100 = some (.aload_n 0, 1, 0, 0, .null) := by decide +kernel
theorem k147_101 : am_cd am_x 147 101 = some (.getfield 64, 3, 8, 4, .null) := by decide +kernel
theorem k147_104 : am_cd am_x 147 104 = some (.ifCond .ne 7, 3, 111, 0, .null) := by decide +kernel
theorem k147_107 : am_cd am_x 147 107 = some (.iload_n 1, 1, 0, 0, .null) := by decide +kernel
theorem k147_108 : am_cd am_x 147 108 = some (.ifCond .ne 7, 3, 115, 0, .null) := by decide +kernel
theorem k147_111 : am_cd am_x 147 111 = some (.iconst 1, 1, 0, 0, .null) := by decide +kernel
theorem k147_112 : am_cd am_x 147 112 = some (.goto 4, 3, 116, 0, .null) := by decide +kernel
theorem k147_115 : am_cd am_x 147 115 = some (.iconst 0, 1, 0, 0, .null) := by decide +kernel
theorem k147_116 : am_cd am_x 147 116 = some (.putfield 64, 3, 8, 4, .int 1) := by decide +kernel
theorem k147_119 : am_cd am_x 147 119 = some (.aload_n 0, 1, 0, 0, .null) := by decide +kernel
theorem k147_120 : am_cd am_x 147 120 = some (.aload_n 0, 1, 0, 0, .null) := by decide +kernel
theorem k147_121 : am_cd am_x 147 121 = some (.getfield 68, 3, 8, 5, .null) := by decide +kernel
theorem k147_124 : am_cd am_x 147 124 = some (.ifCond .ne 8, 3, 132, 0, .null) := by decide +kernel
theorem k147_127 : am_cd am_x 147 127 = some (.iload_n 1, 1, 0, 0, .null) := by decide +kernel
theorem k147_128 : am_cd am_x 147 128 = some (.iconst 3, 1, 0, 0, .null) := by decide +kernel
theorem k147_129 : am_cd am_x 147 129 = some (.if_icmp .ne 7, 3, 136, 0, .null) := by decide +kernel
theorem k147_132 : am_cd am_x 147 132 = some (.iconst 1, 1, 0, 0, .null) := by decide +kernel
theorem k147_133 : am_cd am_x 147 133 = some (.goto 4, 3, 137, 0, .null) := by decide +kernel
theorem k147_136 : am_cd am_x 147 136 = some (.iconst 0, 1, 0, 0, .null) := by decide +kernel
theorem k147_137 : am_cd am_x 147 137 = some (.putfield 68, 3, 8, 5, .int 1) := by decide +kernel
theorem k147_140 : am_cd am_x 147 140 = some (.aload_n 0, 1, 0, 0, .null) := by decide +kernel
theorem k147_141 : am_cd am_x 147 141 = some (.aload_n 0, 1, 0, 0, .null) := by decide +kernel
theorem k147_142 : am_cd am_x 147 142 = some (.getfield 71, 3, 8, 6, .null) := by decide +kernel
theorem k147_145 : am_cd am_x 147 145 = some (.ifCond .ne 8, 3, 153, 0, .null) := by decide +kernel
theorem k147_148 : am_cd am_x 147 148 = some (.iload_n 1, 1, 0, 0, .null) := by decide +kernel
theorem k147_149 : am_cd am_x 147 149 = some (.iconst 4, 1, 0, 0, .null) := by decide +kernel
theorem k147_150 : am_cd am_x 147 150 = some (.if_icmp .ne 7, 3, 157, 0, .null) := by decide +kernel
theorem k147_153 : am_cd am_x 147 153 = some (.iconst 1, 1, 0, 0, .null) := by decide +kernel
theorem k147_154 : am_cd am_x 147 154 = some (.goto 4, 3, 158, 0, .null) := by decide +kernel
theorem k147_157 : am_cd am_x 147 157 = some (.iconst 0, 1, 0, 0, .null) := by decide +kernel
theorem k147_158 : am_cd am_x 147 158 = some (.putfield 71, 3, 8, 6, .int 1) := by decide +kernel
theorem k147_161 : am_cd am_x 147 161 = some (.aload_n 0, 1, 0, 0, .null) := by decide +kernel
theorem k147_162 : am_cd am_x 147 162 = some (.invokevirtual 137, 3, 139, 8, .null) := by decide +kernel
theorem k147_165 : am_cd am_x 147 165 = some (.aload_n 0, 1, 0, 0, .null) := by decide +kernel
theorem k147_166 : am_cd am_x 147 166 = some (.getfield 97, 3, 8, 17, .null) := by decide +kernel
theorem k147_169 : am_cd am_x 147 169 = some (.ifCond .le 4, 3, 173, 0, .null) := by decide +kernel
theorem k147_172 : am_cd am_x 147 172 = some (.return_, 1, 0, 0, .null) := by decide +kernel
theorem k147_173 : am_cd am_x 147 173 = some (.aload_n 0, 1, 0, 0, .null) := by decide +kernel
theorem k147_174 : am_cd am_x 147 174 = some (.iload_n 1, 1, 0, 0, .null) := by decide +kernel
theorem k147_175 : am_cd am_x 147 175 = some (.invokevirtual 163, 3, 146, 8, .null) := by decide +kernel
theorem k147_178 : am_cd am_x 147 178 = some (.aload_n 0, 1, 0, 0, .null) := by decide +kernel
theorem k147_179 : am_cd am_x 147 179 = some (.getfield 97, 3, 8, 17, .null) := by decide +kernel
theorem k147_182 : am_cd am_x 147 182 = some (.ifCond .ne 21, 3, 203, 0, .null) := by decide +kernel
theorem k147_185 : am_cd am_x 147 185 = some (.aload_n 0, 1, 0, 0, .null) := by decide +kernel
theorem k147_186 : am_cd am_x 147 186 = some (.aload_n 0, 1, 0, 0, .null) := by decide +kernel
theorem k147_187 : am_cd am_x 147 187 = some (.getfield 119, 3, 8, 15, .null) := by decide +kernel
theorem k147_190 : am_cd am_x 147 190 = some (.iconst 3, 1, 0, 0, .null) := by decide +kernel
theorem k147_191 : am_cd am_x 147 191 = some (.if_icmp .ne 7, 3, 198, 0, .null) := by decide +kernel
theorem k147_194 : am_cd am_x 147 194 = some (.iconst 1, 1, 0, 0, .null) := by decide +kernel
theorem k147_195 : am_cd am_x 147 195 = some (.goto 4, 3, 199, 0, .null) := by decide +kernel
theorem k147_198 : am_cd am_x 147 198 = some (.iconst 0, 1, 0, 0, .null) := by decide +kernel
theorem k147_199 : am_cd am_x 147 199 = some (.iconst 2, 1, 0, 0, .null) := by decide +kernel
theorem k147_200 : am_cd am_x 147 200 = some (.invokevirtual 133, 3, 134, 8, .null) := by decide +kernel
theorem k147_203 : am_cd am_x 147 203 = some (.aload_n 0, 1, 0, 0, .null) := by decide +kernel
theorem k147_204 : am_cd am_x 147 204 = some (.invokevirtual 137, 3, 139, 8, .null) := by decide +kernel
theorem k147_207 : am_cd am_x 147 207 = some (.return_, 1, 0, 0, .null) := by decide +kernel
theorem k148_0 : am_cd am_x 148 0 = some (.aload_n 0, 1, 0, 0, .null) := by decide +kernel
theorem k148_1 : am_cd am_x 148 1 = some (.getfield 64, 3, 8, 4, .null) := by decide +kernel
theorem k148_4 : am_cd am_x 148 4 = some (.ifCond .ne 10, 3, 14, 0, .null) := by decide +kernel
theorem k148_7 : am_cd am_x 148 7 = some (.aload_n 0, 1, 0, 0, .null) := by decide +kernel
theorem k148_8 : am_cd am_x 148 8 = some (.getfield 74, 3, 8, 10, .null) := by decide +kernel
theorem k148_11 : am_cd am_x 148 11 = some (.ifCond .ne 7, 3, 18, 0, .null) := by decide +kernel
theorem k148_14 : am_cd am_x 148 14 = some (.iconst 1, 1, 0, 0, .null) := by decide +kernel
theorem k148_15 : am_cd am_x 148 15 = some (.goto 4, 3, 19, 0, .null) := by decide +kernel
theorem k148_18 : am_cd am_x 148 18 = some (.iconst 0, 1, 0, 0, .null) := by decide +kernel
theorem k148_19 : am_cd am_x 148 19 = some (.istore_n 1, 1, 0, 0, .null) := by decide +kernel
theorem k148_20 : am_cd am_x 148 20 = some (.iload_n 1, 1, 0, 0, .null) := by decide +kernel
theorem k148_21 : am_cd am_x 148 21 = some (.ifCond .eq 46, 3, 67, 0, .null) := by decide +kernel
theorem k148_24 : am_cd am_x 148 24 = some (.aload_n 0, 1, 0, 0, .null) := by decide +kernel
theorem k148_25 : am_cd am_x 148 25 = some (.getfield 77, 3, 8, 7, .null) := by decide +kernel
theorem k148_28 : am_cd am_x 148 28 = some (.aload_n 0, 1, 0, 0, .null) := by decide +kernel
theorem k148_29 : am_cd am_x 148 29 = some (.getfield 20, 3, 8, 3, .null) := by decide +kernel
theorem k148_32 : am_cd am_x 148 32 = some (.iconst 0, 1, 0, 0, .null) := by decide +kernel
theorem k148_33 : am_cd am_x 148 33 = some (.iaload, 1, 0, 0, .null) := by decide +kernel
theorem k148_34 : am_cd am_x 148 34 = some (.if_icmp .ge 33, 3, 67, 0, .null) := by decide +kernel
theorem k148_37 : am_cd am_x 148 37 = some (.aload_n 0, 1, 0, 0, .null) := by decide +kernel
theorem k148_38 : am_cd am_x 148 38 = some (.getfield 81, 3, 8, 8, .null) := by decide +kernel
theorem k148_41 : am_cd am_x 148 41 = some (.aload_n 0, 1, 0, 0, .null) := by decide +kernel
theorem k148_42 : am_cd am_x 148 42 = some (.getfield 20, 3, 8, 3, .null) := by decide +kernel
theorem k148_45 : am_cd am_x 148 45 = some (.iconst 1, 1, 0, 0, .null) := by decide +kernel
theorem k148_46 : am_cd am_x 148 46 = some (.iaload, 1, 0, 0, .null) := by decide +kernel
theorem k148_47 : am_cd am_x 148 47 = some (.if_icmp .ge 20, 3, 67, 0, .null) := by decide +kernel
theorem k148_50 : am_cd am_x 148 50 = some (.aload_n 0, 1, 0, 0, .null) := by decide +kernel
theorem k148_51 : am_cd am_x 148 51 = some (.getfield 84, 3, 8, 9, .null) := by decide +kernel
theorem k148_54 : am_cd am_x 148 54 = some (.aload_n 0, 1, 0, 0, .null) := by decide +kernel
theorem k148_55 : am_cd am_x 148 55 = some (.getfield 20, 3, 8, 3, .null) := by decide +kernel
theorem k148_58 : am_cd am_x 148 58 = some (.iconst 2, 1, 0, 0, .null) := by decide +kernel
theorem k148_59 : am_cd am_x 148 59 = some (.iaload, 1, 0, 0, .null) := by decide +kernel
theorem k148_60 : am_cd am_x 148 60 = some (.if_icmp .ge 7, 3, 67, 0, .null) := by decide +kernel
theorem k148_63 : am_cd am_x 148 63 = some (.iconst 1, 1, 0, 0, .null) := by decide +kernel
theorem k148_64 : am_cd am_x 148 64 = some (.goto 4, 3, 68, 0, .null) := by decide +kernel
theorem k148_67 : am_cd am_x 148 67 = some (.iconst 0, 1, 0, 0, .null) := by decide +kernel
theorem k148_68 : am_cd am_x 148 68 = some (.istore_n 1, 1, 0, 0, .null) := by decide +kernel
theorem k148_69 : am_cd am_x 148 69 = some (.iload_n 1, 1, 0, 0, .null) := by decide +kernel
theorem k148_70 : am_cd am_x 148 70 = some (.ifCond .eq 23, 3, 93, 0, .null) := by decide +kernel
theorem k148_73 : am_cd am_x 148 73 = some (.aload_n 0, 1, 0, 0, .null) := by decide +kernel
theorem k148_74 : am_cd am_x 148 74 = some (.getfield 20, 3, 8, 3, .null) := by decide +kernel
theorem k148_77 : am_cd am_x 148 77 = some (.iconst 5, 1, 0, 0, .null) := by decide +kernel
theorem k148_78 : am_cd am_x 148 78 = some (.iaload, 1, 0, 0, .null) := by decide +kernel
theorem k148_79 : am_cd am_x 148 79 = some (.aload_n 0, 1, 0, 0, .null) := by decide +kernel
theorem k148_80 : am_cd am_x 148 80 = some (.getfield 20, 3, 8, 3, .null) := by decide +kernel
theorem k148_83 : am_cd am_x 148 83 = some (.iconst 4, 1, 0, 0, .null) := by decide +kernel
theorem k148_84 : am_cd am_x 148 84 = some (.iaload, 1, 0, 0, .null) := by decide +kernel
theorem k148_85 : am_cd am_x 148 85 = some (.ishr, 1, 0, 0, .null) := by decide +kernel
theorem k148_86 : am_cd am_x 148 86 = some (.ifCond .ne 7, 3, 93, 0, .null) := by decide +kernel
theorem k148_89 : am_cd am_x 148 89 = some (.iconst 1, 1, 0, 0, .null) := by decide +kernel
theorem k148_90 : am_cd am_x 148 90 = some (.goto 4, 3, 94, 0, .null) := by decide +kernel
theorem k148_93 : am_cd am_x 148 93 = some (.iconst 0, 1, 0, 0, .null) := by decide +kernel
theorem k148_94 : am_cd am_x 148 94 = some (.istore_n 1, 1, 0, 0, .null) := by decide +kernel
theorem k148_95 : am_cd am_x 148 95 = some (.iload_n 1, 1, 0, 0, .null) := by decide +kernel
theorem k148_96 : am_cd am_x 148 96 = some (.ifCond .eq 31, 3, 127, 0, .null) := by decide +kernel
theorem k148_99 : am_cd am_x 148 99 = some (.aload_n 0, 1, 0, 0, .null) := by decide +kernel
theorem k148_100 : am_cd am_x 148 100 = some (.getfield 71, 3, 8, 6, .null) := by decide +kernel
theorem k148_103 : am_cd am_x 148 103 = some (.ifCond .eq 20, 3, 123, 0, .null) := by decide +kernel
theorem k148_106 : am_cd am_x 148 106 = some (.aload_n 0, 1, 0, 0, .null) := by decide +kernel
theorem k148_107 : am_cd am_x 148 107 = some (.getfield 20, 3, 8, 3, .null) := by decide +kernel
theorem k148_110 : am_cd am_x 148 110 = some (.bipush 6, 2, 0, 0, .null) := by decide +kernel
theorem k148_112 : am_cd am_x 148 112 = some (.iaload, 1, 0, 0, .null) := by decide +kernel
theorem k148_113 : am_cd am_x 148 113 = some (.aload_n 0, 1, 0, 0, .null) := by decide +kernel
theorem k148_114 : am_cd am_x 148 114 = some (.getfield 20, 3, 8, 3, .null) := by decide +kernel
theorem k148_117 : am_cd am_x 148 117 = some (.iconst 2, 1, 0, 0, .null) := by decide +kernel
theorem k148_118 : am_cd am_x 148 118 = some (.iaload, 1, 0, 0, .null) := by decide +kernel
theorem k148_119 : am_cd am_x 148 119 = some (.ishr, 1, 0, 0, .null) := by decide +kernel
theorem k148_120 : am_cd am_x 148 120 = some (.ifCond .ne 7, 3, 127, 0, .null) := by decide +kernel
theorem k148_123 : am_cd am_x 148 123 = some (.iconst 1, 1, 0, 0, .null) := by decide +kernel
theorem k148_124 : am_cd am_x 148 124 = some (.goto 4, 3, 128, 0, .null) := by decide +kernel
theorem k148_127 : am_cd am_x 148 127 = some (.iconst 0, 1, 0, 0, .null) := by decide +kernel
theorem k148_128 : am_cd am_x 148 128 = some (.ireturn, 1, 0, 0, .null) := by decide +kernel
theorem k149_0 : am_cd am_x 149 0 = some (.iconst 0, 1, 0, 0, .null) := by decide +kernel
theorem k149_1 : am_cd am_x 149 1 = some (.istore_n 1, 1, 0, 0, .null) := by decide +kernel
theorem k149_2 : am_cd am_x 149 2 = some (.aload_n 0, 1, 0, 0, .null) := by decide +kernel
theorem k149_3 : am_cd am_x 149 3 = some (.iconst 0, 1, 0, 0, .null) := by decide +kernel
theorem k149_4 : am_cd am_x 149 4 = some (.putfield 97, 3, 8, 17, .int 0) := by decide +kernel
theorem k149_7 : am_cd am_x 149 7 = some (.aload_n 0, 1, 0, 0, .null) := by decide +kernel
theorem k149_8 : am_cd am_x 149 8 = some (.iconst 0, 1, 0, 0, .null) := by decide +kernel
theorem k149_9 : am_cd am_x 149 9 = some (.putfield 106, 3, 8, 13, .int 0) := by decide +kernel
theorem k149_12 : am_cd am_x 149 12 = some (.aload_n 0, 1, 0, 0, .null) := by decide +kernel
theorem k149_13 : am_cd am_x 149 13 = some (.invokevirtual 50, 3, 129, 8, .null) := by decide +kernel
theorem k149_16 : am_cd am_x 149 16 = some (.aload_n 0, 1, 0, 0, .null) := by decide +kernel
theorem k149_17 : am_cd am_x 149 17 = some (.invokevirtual 137, 3, 139, 8, .null) := by decide +kernel
theorem k149_20 : am_cd am_x 149 20 = some (.aload_n 0, 1, 0, 0, .null) := by decide +kernel
theorem k149_21 : am_cd am_x 149 21 = some (.getfield 97, 3, 8, 17, .null) := by decide +kernel
theorem k149_24 : am_cd am_x 149 24 = some (.ifCond .ne 20, 3, 44, 0, .null) := by decide +kernel
theorem k149_27 : am_cd am_x 149 27 = some (.aload_n 0, 1, 0, 0, .null) := by decide +kernel
theorem k149_28 : am_cd am_x 149 28 = some (.getfield 119, 3, 8, 15, .null) := by decide +kernel
theorem k149_31 : am_cd am_x 149 31 = some (.ifCond .eq 13, 3, 44, 0, .null) := by decide +kernel
theorem k149_34 : am_cd am_x 149 34 = some (.aload_n 0, 1, 0, 0, .null) := by decide +kernel
theorem k149_35 : am_cd am_x 149 35 = some (.invokevirtual 167, 3, 147, 8, .null) := by decide +kernel
theorem k149_38 : am_cd am_x 149 38 = some (.iinc 1 1, 3, 0, 0, .null) := by decide +kernel
theorem k149_41 : am_cd am_x 149 41 = some (.goto (-21), 3, 20, 0, .null) := by decide +kernel
theorem k149_44 : am_cd am_x 149 44 = some (.aload_n 0, 1, 0, 0, .null) := by decide +kernel
theorem k149_45 : am_cd am_x 149 45 = some (.getfield 97, 3, 8, 17, .null) := by decide +kernel
theorem k149_48 : am_cd am_x 149 48 = some (.ifCond .ne 13, 3, 61, 0, .null) := by decide +kernel
theorem k149_51 : am_cd am_x 149 51 = some (.aload_n 0, 1, 0, 0, .null) := by decide +kernel
theorem k149_52 : am_cd am_x 149 52 = some (.aload_n 0, 1, 0, 0, .null) := by decide +kernel
theorem k149_53 : am_cd am_x 149 53 = some (.invokevirtual 170, 3, 148, 8, .null) := by decide +kernel
theorem k149_56 : am_cd am_x 149 56 = some (.bipush 6, 2, 0, 0, .null) := by decide +kernel
theorem k149_58 : am_cd am_x 149 58 = some (.invokevirtual 133, 3, 134, 8, .null) := by decide +kernel
theorem k149_61 : am_cd am_x 149 61 = some (.aload_n 0, 1, 0, 0, .null) := by decide +kernel
theorem k149_62 : am_cd am_x 149 62 = some (.iconst 0, 1, 0, 0, .null) := by decide +kernel
theorem k149_63 : am_cd am_x 149 63 = some (.putfield 94, 3, 8, 12, .int 0) := by decide +kernel
theorem k149_66 : am_cd am_x 149 66 = some (.aload_n 0, 1, 0, 0, .null) := by decide +kernel
theorem k149_67 : am_cd am_x 149 67 = some (.getfield 97, 3, 8, 17, .null) := by decide +kernel
theorem k149_70 : am_cd am_x 149 70 = some (.ifCond .le 11, 3, 81, 0, .null) := by decide +kernel
theorem k149_73 : am_cd am_x 149 73 = some (.bipush (-10), 2, 0, 0, .null) := by decide +kernel
theorem k149_75 : am_cd am_x 149 75 = some (.aload_n 0, 1, 0, 0, .null) := by decide +kernel
theorem k149_76 : am_cd am_x 149 76 = some (.getfield 103, 3, 8, 18, .null) := by decide +kernel
theorem k149_79 : am_cd am_x 149 79 = some (.isub, 1, 0, 0, .null) := by decide +kernel
theorem k149_80 : am_cd am_x 149 80 = some (.ireturn, 1, 0, 0, .null) := by decide +kernel
theorem k149_81 : am_cd am_x 149 81 = some (.aload_n 0, 1, 0, 0, .null) := by decide +kernel
theorem k149_82 : am_cd am_x 149 82 = some (.invokevirtual 53, 3, 131, 8, .null) := by decide +kernel
theorem k149_85 : am_cd am_x 149 85 = some (.iload_n 1, 1, 0, 0, .null) := by decide +kernel
theorem k149_86 : am_cd am_x 149 86 = some (.ireturn, 1, 0, 0, .null) := by decide +kernel
theorem k150_0 : am_cd am_x 150 0 = some (.aload_n 0, 1, 0, 0, .null) := by decide +kernel
theorem k150_1 : am_cd am_x 150 1 = some (.getfield 97, 3, 8, 17, .null) := by decide +kernel
theorem k150_4 : am_cd am_x 150 4 = some (.ireturn, 1, 0, 0, .null) := by decide +kernel
theorem k151_0 : am_cd am_x 151 0 = some (.iload_n 1, 1, 0, 0, .null) := by decide +kernel
theorem k151_1 : am_cd am_x 151 1 = some (.i2l, 1, 0, 0, .null) := by decide +kernel
theorem k151_2 : am_cd am_x 151 2 = some (.lconst 0, 1, 0, 0, .null) := by decide +kernel
theorem k151_3 : am_cd am_x 151 3 = some (.aload_n 0, 1, 0, 0, .null) := by decide +kernel
theorem k151_4 : am_cd am_x 151 4 = some (.getfield 7, 3, 8, 0, .null) := by decide +kernel
theorem k151_7 : am_cd am_x 151 7 = some (.iconst 0, 1, 0, 0, .null) := by decide +kernel
theorem k151_8 : am_cd am_x 151 8 = some (.iaload, 1, 0, 0, .null) := by decide +kernel
theorem k151_9 : am_cd am_x 151 9 = some (.iconst 1, 1, 0, 0, .null) := by decide +kernel
theorem k151_10 : am_cd am_x 151 10 = some (.isub, 1, 0, 0, .null) := by decide +kernel
theorem k151_11 : am_cd am_x 151 11 = some (.i2l, 1, 0, 0, .null) := by decide +kernel
theorem k151_12 : am_cd am_x 151 12 = some (.invokestatic 60, 3, 125, 0, .null) := by decide +kernel
theorem k151_15 : am_cd am_x 151 15 = some (.ireturn, 1, 0, 0, .null) := by decide +kernel
theorem k152_0 : am_cd am_x 152 0 = some (.aload_n 0, 1, 0, 0, .null) := by decide +kernel
theorem k152_1 : am_cd am_x 152 1 = some (.iload_n 1, 1, 0, 0, .null) := by decide +kernel
theorem k152_2 : am_cd am_x 152 2 = some (.invokevirtual 174, 3, 151, 8, .null) := by decide +kernel
theorem k152_5 : am_cd am_x 152 5 = some (.ifCond .eq 25, 3, 30, 0, .null) := by decide +kernel
theorem k152_8 : am_cd am_x 152 8 = some (.iload_n 2, 1, 0, 0, .null) := by decide +kernel
theorem k152_9 : am_cd am_x 152 9 = some (.i2l, 1, 0, 0, .null) := by decide +kernel
theorem k152_10 : am_cd am_x 152 10 = some (.lconst 0, 1, 0, 0, .null) := by decide +kernel
theorem k152_11 : am_cd am_x 152 11 = some (.aload_n 0, 1, 0, 0, .null) := by decide +kernel
theorem k152_12 : am_cd am_x 152 12 = some (.getfield 7, 3, 8, 0, .null) := by decide +kernel
theorem k152_15 : am_cd am_x 152 15 = some (.iconst 1, 1, 0, 0, .null) := by decide +kernel
theorem k152_16 : am_cd am_x 152 16 = some (.iaload, 1, 0, 0, .null) := by decide +kernel
theorem k152_17 : am_cd am_x 152 17 = some (.iconst 1, 1, 0, 0, .null) := by decide +kernel
theorem k152_18 : am_cd am_x 152 18 = some (.isub, 1, 0, 0, .null) := by decide +kernel
theorem k152_19 : am_cd am_x 152 19 = some (.i2l, 1, 0, 0, .null) := by decide +kernel
theorem k152_20 : am_cd am_x 152 20 = some (.invokestatic 60, 3, 125, 0, .null) := by decide +kernel
theorem k152_23 : am_cd am_x 152 23 = some (.ifCond .eq 7, 3, 30, 0, .null) := by decide +kernel
theorem k152_26 : am_cd am_x 152 26 = some (.iconst 1, 1, 0, 0, .null) := by decide +kernel
theorem k152_27 : am_cd am_x 152 27 = some (.goto 4, 3, 31, 0, .null) := by decide +kernel
theorem k152_30 : am_cd am_x 152 30 = some (.iconst 0, 1, 0, 0, .null) := by decide +kernel
theorem k152_31 : am_cd am_x 152 31 = some (.ireturn, 1, 0, 0, .null) := by decide +kernel
theorem k153_0 : am_cd am_x 153 0 = some (.iload_n 0, 1, 0, 0, .null) := by decide +kernel
theorem k153_1 : am_cd am_x 153 1 = some (.i2l, 1, 0, 0, .null) := by decide +kernel
theorem k153_2 : am_cd am_x 153 2 = some (.lconst 0, 1, 0, 0, .null) := by decide +kernel
theorem k153_3 : am_cd am_x 153 3 = some (.lconst 1, 1, 0, 0, .null) := by decide +kernel
theorem k153_4 : am_cd am_x 153 4 = some (.invokestatic 60, 3, 125, 0, .null) := by decide +kernel
theorem k153_7 : am_cd am_x 153 7 = some (.ireturn, 1, 0, 0, .null) := by decide +kernel
theorem k154_0 : am_cd am_x 154 0 = some (.aload_n 0, 1, 0, 0, .null) := by decide +kernel
theorem k154_1 : am_cd am_x 154 1 = some (.getfield 7, 3, 8, 0, .null) := by decide +kernel
theorem k154_4 : am_cd am_x 154 4 = some (.bipush 7, 2, 0, 0, .null) := by decide +kernel
theorem k154_6 : am_cd am_x 154 6 = some (.bipush 8, 2, 0, 0, .null) := by decide +kernel
theorem k154_8 : am_cd am_x 154 8 = some (.iload_n 1, 1, 0, 0, .null) := by decide +kernel
theorem k154_9 : am_cd am_x 154 9 = some (.imul, 1, 0, 0, .null) := by decide +kernel
theorem k154_10 : am_cd am_x 154 10 = some (.iadd, 1, 0, 0, .null) := by decide +kernel
theorem k154_11 : am_cd am_x 154 11 = some (.iload_n 2, 1, 0, 0, .null) := by decide +kernel
theorem k154_12 : am_cd am_x 154 12 = some (.iadd, 1, 0, 0, .null) := by decide +kernel
theorem k154_13 : am_cd am_x 154 13 = some (.iaload, 1, 0, 0, .null) := by decide +kernel
theorem k154_14 : am_cd am_x 154 14 = some (.ireturn, 1, 0, 0, .null) := by decide +kernel
theorem k155_0 : am_cd am_x 155 0 = some (.iconst 0, 1, 0, 0, .null) := by decide +kernel
theorem k155_1 : am_cd am_x 155 1 = some (.istore_n 3, 1, 0, 0, .null) := by decide +kernel
theorem k155_2 : am_cd am_x 155 2 = some (.iconst 0, 1, 0, 0, .null) := by decide +kernel
theorem k155_3 : am_cd am_x 155 3 = some (.istore 4, 2, 0, 0, .null) := by decide +kernel
theorem k155_5 : am_cd am_x 155 5 = some (.iload 4, 2, 0, 0, .null) := by decide +kernel
theorem k155_7 : am_cd am_x 155 7 = some (.aload_n 0, 1, 0, 0, .null) := by decide +kernel
theorem k155_8 : am_cd am_x 155 8 = some (.getfield 7, 3, 8, 0, .null) := by decide +kernel
theorem k155_11 : am_cd am_x 155 11 = some (.iconst 0, 1, 0, 0, .null) := by decide +kernel
theorem k155_12 : am_cd am_x 155 12 = some (.iaload, 1, 0, 0, .null) := by decide +kernel
theorem k155_13 : am_cd am_x 155 13 = some (.if_icmp .ge 71, 3, 84, 0, .null) := by decide +kernel
theorem k155_16 : am_cd am_x 155 16 = some (.aload_n 0, 1, 0, 0, .null) := by decide +kernel
theorem k155_17 : am_cd am_x 155 17 = some (.getfield 7, 3, 8, 0, .null) := by decide +kernel
theorem k155_20 : am_cd am_x 155 20 = some (.iconst 3, 1, 0, 0, .null) := by decide +kernel
theorem k155_21 : am_cd am_x 155 21 = some (.iaload, 1, 0, 0, .null) := by decide +kernel
theorem k155_22 : am_cd am_x 155 22 = some (.iload 4, 2, 0, 0, .null) := by decide +kernel
theorem k155_24 : am_cd am_x 155 24 = some (.invokestatic 178, 3, 127, 0, .null) := by decide +kernel
theorem k155_27 : am_cd am_x 155 27 = some (.ifCond .ne 51, 3, 78, 0, .null) := by decide +kernel
theorem k155_30 : am_cd am_x 155 30 = some (.aload_n 0, 1, 0, 0, .null) := by decide +kernel
theorem k155_31 : am_cd am_x 155 31 = some (.getfield 7, 3, 8, 0, .null) := by decide +kernel
theorem k155_34 : am_cd am_x 155 34 = some (.sipush 135, 3, 0, 0, .null) := by decide +kernel
theorem k155_37 : am_cd am_x 155 37 = some (.iload 4, 2, 0, 0, .null) := by decide +kernel
theorem k155_39 : am_cd am_x 155 39 = some (.iadd, 1, 0, 0, .null) := by decide +kernel
theorem k155_40 : am_cd am_x 155 40 = some (.iaload, 1, 0, 0, .null) := by decide +kernel
theorem k155_41 : am_cd am_x 155 41 = some (.iload_n 2, 1, 0, 0, .null) := by decide +kernel
theorem k155_42 : am_cd am_x 155 42 = some (.invokestatic 178, 3, 127, 0, .null) := by decide +kernel
theorem k155_45 : am_cd am_x 155 45 = some (.ifCond .eq 33, 3, 78, 0, .null) := by decide +kernel
theorem k155_48 : am_cd am_x 155 48 = some (.iload_n 3, 1, 0, 0, .null) := by decide +kernel
theorem k155_49 : am_cd am_x 155 49 = some (.iconst 2, 1, 0, 0, .null) := by decide +kernel
theorem k155_50 : am_cd am_x 155 50 = some (.if_icmp .eq 14, 3, 64, 0, .null) := by decide +kernel
theorem k155_53 : am_cd am_x 155 53 = some (.aload_n 0, 1, 0, 0, .null) := by decide +kernel
theorem k155_54 : am_cd am_x 155 54 = some (.iload 4, 2, 0, 0, .null) := by decide +kernel
theorem k155_56 : am_cd am_x 155 56 = some (.iload_n 1, 1, 0, 0, .null) := by decide +kernel
theorem k155_57 : am_cd am_x 155 57 = some (.invokevirtual 182, 3, 154, 8, .null) := by decide +kernel
theorem k155_60 : am_cd am_x 155 60 = some (.iconst 2, 1, 0, 0, .null) := by decide +kernel
theorem k155_61 : am_cd am_x 155 61 = some (.if_icmp .ne 7, 3, 68, 0, .null) := by decide +kernel
theorem k155_64 : am_cd am_x 155 64 = some (.iconst 2, 1, 0, 0, .null) := by decide +kernel
theorem k155_65 : am_cd am_x 155 65 = some (.goto 12, 3, 77, 0, .null) := by decide +kernel
theorem k155_68 : am_cd am_x 155 68 = some (.iload_n 3, 1, 0, 0, .null) := by decide +kernel
theorem k155_69 : am_cd am_x 155 69 = some (.aload_n 0, 1, 0, 0, .null) := by decide +kernel
theorem k155_70 : am_cd am_x 155 70 = some (.iload 4, 2, 0, 0, .null) := by decide +kernel
theorem k155_72 : am_cd am_x 155 72 = some (.iload_n 1, 1, 0, 0, .null) := by decide +kernel
theorem k155_73 : am_cd am_x 155 73 = some (.invokevirtual 182, 3, 154, 8, .null) := by decide +kernel
theorem k155_76 : am_cd am_x 155 76 = some (.ixor, 1, 0, 0, .null) := by decide +kernel
theorem k155_77 : am_cd am_x 155 77 = some (.istore_n 3, 1, 0, 0, .null) := by decide +kernel
theorem k155_78 : am_cd am_x 155 78 = some (.iinc 4 1, 3, 0, 0, .null) := by decide +kernel
theorem k155_81 : am_cd am_x 155 81 = some (.goto (-76), 3, 5, 0, .null) := by decide +kernel
theorem k155_84 : am_cd am_x 155 84 = some (.iload_n 3, 1, 0, 0, .null) := by decide +kernel
theorem k155_85 : am_cd am_x 155 85 = some (.ireturn, 1, 0, 0, .null) := by decide +kernel
theorem k156_0 : am_cd am_x 156 0 = some (.iconst 0, 1, 0, 0, .null) := by decide +kernel
theorem k156_1 : am_cd am_x 156 1 = some (.istore_n 3, 1, 0, 0, .null) := by decide +kernel
theorem k156_2 : am_cd am_x 156 2 = some (.iconst 0, 1, 0, 0, .null) := by decide +kernel
theorem k156_3 : am_cd am_x 156 3 = some (.istore 4, 2, 0, 0, .null) := by decide +kernel
theorem k156_5 : am_cd am_x 156 5 = some (.iload 4, 2, 0, 0, .null) := by decide +kernel
theorem k156_7 : am_cd am_x 156 7 = some (.aload_n 0, 1, 0, 0, .null) := by decide +kernel
theorem k156_8 : am_cd am_x 156 8 = some (.getfield 7, 3, 8, 0, .null) := by decide +kernel
theorem k156_11 : am_cd am_x 156 11 = some (.iconst 2, 1, 0, 0, .null) := by decide +kernel
theorem k156_12 : am_cd am_x 156 12 = some (.iaload, 1, 0, 0, .null) := by decide +kernel
theorem k156_13 : am_cd am_x 156 13 = some (.if_icmp .ge 48, 3, 61, 0, .null) := by decide +kernel
theorem k156_16 : am_cd am_x 156 16 = some (.iload_n 3, 1, 0, 0, .null) := by decide +kernel
theorem k156_17 : am_cd am_x 156 17 = some (.ifCond .ne 32, 3, 49, 0, .null) := by decide +kernel
theorem k156_20 : am_cd am_x 156 20 = some (.aload_n 0, 1, 0, 0, .null) := by decide +kernel
theorem k156_21 : am_cd am_x 156 21 = some (.getfield 7, 3, 8, 0, .null) := by decide +kernel
theorem k156_24 : am_cd am_x 156 24 = some (.sipush 135, 3, 0, 0, .null) := by decide +kernel
theorem k156_27 : am_cd am_x 156 27 = some (.iload_n 1, 1, 0, 0, .null) := by decide +kernel
theorem k156_28 : am_cd am_x 156 28 = some (.iadd, 1, 0, 0, .null) := by decide +kernel
theorem k156_29 : am_cd am_x 156 29 = some (.iaload, 1, 0, 0, .null) := by decide +kernel
theorem k156_30 : am_cd am_x 156 30 = some (.iload 4, 2, 0, 0, .null) := by decide +kernel
theorem k156_32 : am_cd am_x 156 32 = some (.invokestatic 178, 3, 127, 0, .null) := by decide +kernel
theorem k156_35 : am_cd am_x 156 35 = some (.ifCond .eq 18, 3, 53, 0, .null) := by decide +kernel
theorem k156_38 : am_cd am_x 156 38 = some (.aload_n 0, 1, 0, 0, .null) := by decide +kernel
theorem k156_39 : am_cd am_x 156 39 = some (.iload_n 2, 1, 0, 0, .null) := by decide +kernel
theorem k156_40 : am_cd am_x 156 40 = some (.iload 4, 2, 0, 0, .null) := by decide +kernel
theorem k156_42 : am_cd am_x 156 42 = some (.invokevirtual 185, 3, 155, 8, .null) := by decide +kernel
theorem k156_45 : am_cd am_x 156 45 = some (.iconst 2, 1, 0, 0, .null) := by decide +kernel
theorem k156_46 : am_cd am_x 156 46 = some (.if_icmp .eq 7, 3, 53, 0, .null) := by decide +kernel
theorem k156_49 : am_cd am_x 156 49 = some (.iconst 1, 1, 0, 0, .null) := by decide +kernel
theorem k156_50 : am_cd am_x 156 50 = some (.goto 4, 3, 54, 0, .null) := by decide +kernel
theorem k156_53 : am_cd am_x 156 53 = some (.iconst 0, 1, 0, 0, .null) := by decide +kernel
theorem k156_54 : am_cd am_x 156 54 = some (.istore_n 3, 1, 0, 0, .null) := by decide +kernel
theorem k156_55 : am_cd am_x 156 55 = some (.iinc 4 1, 3, 0, 0, .null) := by decide +kernel
theorem k156_58 : am_cd am_x 156 58 = some (.goto (-53), 3, 5, 0, .null) := by decide +kernel
theorem k156_61 : am_cd am_x 156 61 = some (.iload_n 3, 1, 0, 0, .null) := by decide +kernel
theorem k156_62 : am_cd am_x 156 62 = some (.ifCond .eq 30, 3, 92, 0, .null) := by decide +kernel
theorem k156_65 : am_cd am_x 156 65 = some (.aload_n 0, 1, 0, 0, .null) := by decide +kernel
theorem k156_66 : am_cd am_x 156 66 = some (.iload_n 1, 1, 0, 0, .null) := by decide +kernel
theorem k156_67 : am_cd am_x 156 67 = some (.iload_n 2, 1, 0, 0, .null) := by decide +kernel
theorem k156_68 : am_cd am_x 156 68 = some (.invokevirtual 182, 3, 154, 8, .null) := by decide +kernel
theorem k156_71 : am_cd am_x 156 71 = some (.iconst 2, 1, 0, 0, .null) := by decide +kernel
theorem k156_72 : am_cd am_x 156 72 = some (.if_icmp .eq 20, 3, 92, 0, .null) := by decide +kernel
theorem k156_75 : am_cd am_x 156 75 = some (.aload_n 0, 1, 0, 0, .null) := by decide +kernel
theorem k156_76 : am_cd am_x 156 76 = some (.getfield 7, 3, 8, 0, .null) := by decide +kernel
theorem k156_79 : am_cd am_x 156 79 = some (.iconst 3, 1, 0, 0, .null) := by decide +kernel
theorem k156_80 : am_cd am_x 156 80 = some (.iaload, 1, 0, 0, .null) := by decide +kernel
theorem k156_81 : am_cd am_x 156 81 = some (.iload_n 1, 1, 0, 0, .null) := by decide +kernel
theorem k156_82 : am_cd am_x 156 82 = some (.invokestatic 178, 3, 127, 0, .null) := by decide +kernel
theorem k156_85 : am_cd am_x 156 85 = some (.ifCond .ne 7, 3, 92, 0, .null) := by decide +kernel
theorem k156_88 : am_cd am_x 156 88 = some (.iconst 1, 1, 0, 0, .null) := by decide +kernel
theorem k156_89 : am_cd am_x 156 89 = some (.goto 4, 3, 93, 0, .null) := by decide +kernel
theorem k156_92 : am_cd am_x 156 92 = some (.iconst 0, 1, 0, 0, .null) := by decide +kernel
theorem k156_93 : am_cd am_x 156 93 = some (.ireturn, 1, 0, 0, .null) := by decide +kernel
theorem k157_0 : am_cd am_x 157 0 = some (.iconst 0, 1, 0, 0, .null) := by decide +kernel
theorem k157_1 : am_cd am_x 157 1 = some (.istore_n 2, 1, 0, 0, .null) := by decide +kernel
theorem k157_2 : am_cd am_x 157 2 = some (.iconst 0, 1, 0, 0, .null) := by decide +kernel
theorem k157_3 : am_cd am_x 157 3 = some (.istore_n 3, 1, 0, 0, .null) := by decide +kernel
theorem k157_4 : am_cd am_x 157 4 = some (.iload_n 3, 1, 0, 0, .null) := by decide +kernel
theorem k157_5 : am_cd am_x 157 5 = some (.aload_n 0, 1, 0, 0, .null) := by decide +kernel
theorem k157_6 : am_cd am_x 157 6 = some (.getfield 7, 3, 8, 0, .null) := by decide +kernel
theorem k157_9 : am_cd am_x 157 9 = some (.iconst 0, 1, 0, 0, .null) := by decide +kernel
theorem k157_10 : am_cd am_x 157 10 = some (.iaload, 1, 0, 0, .null) := by decide +kernel
theorem k157_11 : am_cd am_x 157 11 = some (.if_icmp .ge 51, 3, 62, 0, .null) := by decide +kernel
theorem k157_14 : am_cd am_x 157 14 = some (.iconst 0, 1, 0, 0, .null) := by decide +kernel
theorem k157_15 : am_cd am_x 157 15 = some (.istore 4, 2, 0, 0, .null) := by decide +kernel
theorem k157_17 : am_cd am_x 157 17 = some (.iload 4, 2, 0, 0, .null) := by decide +kernel
theorem k157_19 : am_cd am_x 157 19 = some (.aload_n 0, 1, 0, 0, .null) := by decide +kernel
theorem k157_20 : am_cd am_x 157 20 = some (.getfield 7, 3, 8, 0, .null) := by decide +kernel
theorem k157_23 : am_cd am_x 157 23 = some (.iconst 1, 1, 0, 0, .null) := by decide +kernel
theorem k157_24 : am_cd am_x 157 24 = some (.iaload, 1, 0, 0, .null) := by decide +kernel
theorem k157_25 : am_cd am_x 157 25 = some (.if_icmp .ge 31, 3, 56, 0, .null) := by decide +kernel
theorem k157_28 : am_cd am_x 157 28 = some (.iload_n 2, 1, 0, 0, .null) := by decide +kernel
theorem k157_29 : am_cd am_x 157 29 = some (.aload_n 0, 1, 0, 0, .null) := by decide +kernel
theorem k157_30 : am_cd am_x 157 30 = some (.iload_n 3, 1, 0, 0, .null) := by decide +kernel
theorem k157_31 : am_cd am_x 157 31 = some (.iload 4, 2, 0, 0, .null) := by decide +kernel
theorem k157_33 : am_cd am_x 157 33 = some (.invokevirtual 182, 3, 154, 8, .null) := by decide +kernel
theorem k157_36 : am_cd am_x 157 36 = some (.iload_n 1, 1, 0, 0, .null) := by decide +kernel
theorem k157_37 : am_cd am_x 157 37 = some (.if_icmp .ne 7, 3, 44, 0, .null) := by decide +kernel
theorem k157_40 : am_cd am_x 157 40 = some (.iconst 1, 1, 0, 0, .null) := by decide +kernel
theorem k157_41 : am_cd am_x 157 41 = some (.goto 4, 3, 45, 0, .null) := by decide +kernel
theorem k157_44 : am_cd am_x 157 44 = some (.iconst 0, 1, 0, 0, .null) := by decide +kernel
theorem k157_45 : am_cd am_x 157 45 = some (.invokestatic 188, 3, 126, 0, .null) := by decide +kernel
theorem k157_48 : am_cd am_x 157 48 = some (.iadd, 1, 0, 0, .null) := by decide +kernel
theorem k157_49 : am_cd am_x 157 49 = some (.istore_n 2, 1, 0, 0, .null) := by decide +kernel
theorem k157_50 : am_cd am_x 157 50 = some (.iinc 4 1, 3, 0, 0, .null) := by decide +kernel
theorem k157_53 : am_cd am_x 157 53 = some (.goto (-36), 3, 17, 0, .null) := by decide +kernel
theorem k157_56 : am_cd am_x 157 56 = some (.iinc 3 1, 3, 0, 0, .null) := by decide +kernel
theorem k157_59 : am_cd am_x 157 59 = some (.goto (-55), 3, 4, 0, .null) := by decide +kernel
theorem k157_62 : am_cd am_x 157 62 = some (.iload_n 2, 1, 0, 0, .null) := by decide +kernel
theorem k157_63 : am_cd am_x 157 63 = some (.ireturn, 1, 0, 0, .null) := by decide +kernel
theorem k158_0 : am_cd am_x 158 0 = some (.iload_n 1, 1, 0, 0, .null) := by decide +kernel
theorem k158_1 : am_cd am_x 158 1 = some (.i2l, 1, 0, 0, .null) := by decide +kernel
theorem k158_2 : am_cd am_x 158 2 = some (.lconst 0, 1, 0, 0, .null) := by decide +kernel
theorem k158_3 : am_cd am_x 158 3 = some (.ldc2_w 192, 3, 0, 0, .long 6) := by decide +kernel
theorem k158_6 : am_cd am_x 158 6 = some (.invokestatic 60, 3, 125, 0, .null) := by decide +kernel
theorem k158_9 : am_cd am_x 158 9 = some (.ifCond .eq 12, 3, 21, 0, .null) := by decide +kernel
theorem k158_12 : am_cd am_x 158 12 = some (.aload_n 0, 1, 0, 0, .null) := by decide +kernel
theorem k158_13 : am_cd am_x 158 13 = some (.getfield 7, 3, 8, 0, .null) := by decide +kernel
theorem k158_16 : am_cd am_x 158 16 = some (.iload_n 1, 1, 0, 0, .null) := by decide +kernel
theorem k158_17 : am_cd am_x 158 17 = some (.iaload, 1, 0, 0, .null) := by decide +kernel
theorem k158_18 : am_cd am_x 158 18 = some (.goto 18, 3, 36, 0, .null) := by decide +kernel
theorem k158_21 : am_cd am_x 158 21 = some (.iload_n 1, 1, 0, 0, .null) := by decide +kernel
theorem k158_22 : am_cd am_x 158 22 = some (.bipush 7, 2, 0, 0, .null) := by decide +kernel
theorem k158_24 : am_cd am_x 158 24 = some (.if_icmp .ne 11, 3, 35, 0, .null) := by decide +kernel
theorem k158_27 : am_cd am_x 158 27 = some (.aload_n 0, 1, 0, 0, .null) := by decide +kernel
theorem k158_28 : am_cd am_x 158 28 = some (.iconst 2, 1, 0, 0, .null) := by decide +kernel
theorem k158_29 : am_cd am_x 158 29 = some (.invokevirtual 194, 3, 157, 8, .null) := by decide +kernel
theorem k158_32 : am_cd am_x 158 32 = some (.goto 4, 3, 36, 0, .null) := by decide +kernel
theorem k158_35 : am_cd am_x 158 35 = some (.iconst (-1), 1, 0, 0, .null) := by decide +kernel
theorem k158_36 : am_cd am_x 158 36 = some (.ireturn, 1, 0, 0, .null) := by decide +kernel
theorem k159_0 : am_cd am_x 159 0 = some (.aload_n 0, 1, 0, 0, .null) := by decide +kernel
theorem k159_1 : am_cd am_x 159 1 = some (.iload_n 1, 1, 0, 0, .null) := by decide +kernel
theorem k159_2 : am_cd am_x 159 2 = some (.iload_n 2, 1, 0, 0, .null) := by decide +kernel
theorem k159_3 : am_cd am_x 159 3 = some (.invokevirtual 197, 3, 152, 8, .null) := by decide +kernel
theorem k159_6 : am_cd am_x 159 6 = some (.ifCond .eq 15, 3, 21, 0, .null) := by decide +kernel
theorem k159_9 : am_cd am_x 159 9 = some (.iload_n 3, 1, 0, 0, .null) := by decide +kernel
theorem k159_10 : am_cd am_x 159 10 = some (.i2l, 1, 0, 0, .null) := by decide +kernel
theorem k159_11 : am_cd am_x 159 11 = some (.lconst 0, 1, 0, 0, .null) := by decide +kernel
theorem k159_12 : am_cd am_x 159 12 = some (.ldc2_w 200, 3, 0, 0, .long 2) := by decide +kernel
theorem k159_15 : am_cd am_x 159 15 = some (.invokestatic 60, 3, 125, 0, .null) := by decide +kernel
theorem k159_18 : am_cd am_x 159 18 = some (.ifCond .ne 5, 3, 23, 0, .null) := by decide +kernel
theorem k159_21 : am_cd am_x 159 21 = some (.iconst (-1), 1, 0, 0, .null) := by decide +kernel
theorem k159_22 : am_cd am_x 159 22 = some (.ireturn, 1, 0, 0, .null) := by decide +kernel
theorem k159_23 : am_cd am_x 159 23 = some (.iload_n 3, 1, 0, 0, .null) := by decide +kernel
theorem k159_24 : am_cd am_x 159 24 = some (.ifCond .ne 12, 3, 36, 0, .null) := by decide +kernel
theorem k159_27 : am_cd am_x 159 27 = some (.aload_n 0, 1, 0, 0, .null) := by decide +kernel
theorem k159_28 : am_cd am_x 159 28 = some (.iload_n 1, 1, 0, 0, .null) := by decide +kernel
theorem k159_29 : am_cd am_x 159 29 = some (.iload_n 2, 1, 0, 0, .null) := by decide +kernel
theorem k159_30 : am_cd am_x 159 30 = some (.invokevirtual 182, 3, 154, 8, .null) := by decide +kernel
theorem k159_33 : am_cd am_x 159 33 = some (.goto 34, 3, 67, 0, .null) := by decide +kernel
theorem k159_36 : am_cd am_x 159 36 = some (.iload_n 3, 1, 0, 0, .null) := by decide +kernel
theorem k159_37 : am_cd am_x 159 37 = some (.iconst 1, 1, 0, 0, .null) := by decide +kernel
theorem k159_38 : am_cd am_x 159 38 = some (.if_icmp .ne 20, 3, 58, 0, .null) := by decide +kernel
theorem k159_41 : am_cd am_x 159 41 = some (.aload_n 0, 1, 0, 0, .null) := by decide +kernel
theorem k159_42 : am_cd am_x 159 42 = some (.getfield 7, 3, 8, 0, .null) := by decide +kernel
theorem k159_45 : am_cd am_x 159 45 = some (.bipush 71, 2, 0, 0, .null) := by decide +kernel
theorem k159_47 : am_cd am_x 159 47 = some (.bipush 8, 2, 0, 0, .null) := by decide +kernel
theorem k159_49 : am_cd am_x 159 49 = some (.iload_n 1, 1, 0, 0, .null) := by decide +kernel
theorem k159_50 : am_cd am_x 159 50 = some (.imul, 1, 0, 0, .null) := by decide +kernel
theorem k159_51 : am_cd am_x 159 51 = some (.iadd, 1, 0, 0, .null) := by decide +kernel
theorem k159_52 : am_cd am_x 159 52 = some (.iload_n 2, 1, 0, 0, .null) := by decide +kernel
theorem k159_53 : am_cd am_x 159 53 = some (.iadd, 1, 0, 0, .null) := by decide +kernel
theorem k159_54 : am_cd am_x 159 54 = some (.iaload, 1, 0, 0, .null) := by decide +kernel
theorem k159_55 : am_cd am_x 159 55 = some (.goto 12, 3, 67, 0, .null) := by decide +kernel
theorem k159_58 : am_cd am_x 159 58 = some (.aload_n 0, 1, 0, 0, .null) := by decide +kernel
theorem k159_59 : am_cd am_x 159 59 = some (.iload_n 1, 1, 0, 0, .null) := by decide +kernel
theorem k159_60 : am_cd am_x 159 60 = some (.iload_n 2, 1, 0, 0, .null) := by decide +kernel
theorem k159_61 : am_cd am_x 159 61 = some (.invokevirtual 202, 3, 156, 8, .null) := by decide +kernel
theorem k159_64 : am_cd am_x 159 64 = some (.invokestatic 188, 3, 126, 0, .null) := by decide +kernel
theorem k159_67 : am_cd am_x 159 67 = some (.ireturn, 1, 0, 0, .null) := by decide +kernel
theorem k160_0 : am_cd am_x 160 0 = some (.aload_n 0, 1, 0, 0, .null) := by decide +kernel
theorem k160_1 : am_cd am_x 160 1 = some (.iload_n 1, 1, 0, 0, .null) := by decide +kernel
theorem k160_2 : am_cd am_x 160 2 = some (.invokevirtual 174, 3, 151, 8, .null) := by decide +kernel
theorem k160_5 : am_cd am_x 160 5 = some (.ifCond .eq 16, 3, 21, 0, .null) := by decide +kernel
theorem k160_8 : am_cd am_x 160 8 = some (.aload_n 0, 1, 0, 0, .null) := by decide +kernel
theorem k160_9 : am_cd am_x 160 9 = some (.getfield 7, 3, 8, 0, .null) := by decide +kernel
theorem k160_12 : am_cd am_x 160 12 = some (.sipush 135, 3, 0, 0, .null) := by decide +kernel
theorem k160_15 : am_cd am_x 160 15 = some (.iload_n 1, 1, 0, 0, .null) := by decide +kernel
theorem k160_16 : am_cd am_x 160 16 = some (.iadd, 1, 0, 0, .null) := by decide +kernel
theorem k160_17 : am_cd am_x 160 17 = some (.iaload, 1, 0, 0, .null) := by decide +kernel
theorem k160_18 : am_cd am_x 160 18 = some (.goto 4, 3, 22, 0, .null) := by decide +kernel
theorem k160_21 : am_cd am_x 160 21 = some (.iconst (-1), 1, 0, 0, .null) := by decide +kernel
theorem k160_22 : am_cd am_x 160 22 = some (.ireturn, 1, 0, 0, .null) := by decide +kernel
theorem k161_0 : am_cd am_x 161 0 = some (.iload_n 1, 1, 0, 0, .null) := by decide +kernel
theorem k161_1 : am_cd am_x 161 1 = some (.i2l, 1, 0, 0, .null) := by decide +kernel
theorem k161_2 : am_cd am_x 161 2 = some (.lconst 0, 1, 0, 0, .null) := by decide +kernel
theorem k161_3 : am_cd am_x 161 3 = some (.aload_n 0, 1, 0, 0, .null) := by decide +kernel
theorem k161_4 : am_cd am_x 161 4 = some (.getfield 7, 3, 8, 0, .null) := by decide +kernel
theorem k161_7 : am_cd am_x 161 7 = some (.iconst 1, 1, 0, 0, .null) := by decide +kernel
theorem k161_8 : am_cd am_x 161 8 = some (.iaload, 1, 0, 0, .null) := by decide +kernel
theorem k161_9 : am_cd am_x 161 9 = some (.iconst 1, 1, 0, 0, .null) := by decide +kernel
theorem k161_10 : am_cd am_x 161 10 = some (.isub, 1, 0, 0, .null) := by decide +kernel
theorem k161_11 : am_cd am_x 161 11 = some (.i2l, 1, 0, 0, .null) := by decide +kernel
theorem k161_12 : am_cd am_x 161 12 = some (.invokestatic 60, 3, 125, 0, .null) := by decide +kernel
theorem k161_15 : am_cd am_x 161 15 = some (.ifCond .eq 30, 3, 45, 0, .null) := by decide +kernel
theorem k161_18 : am_cd am_x 161 18 = some (.iload_n 2, 1, 0, 0, .null) := by decide +kernel
theorem k161_19 : am_cd am_x 161 19 = some (.i2l, 1, 0, 0, .null) := by decide +kernel
theorem k161_20 : am_cd am_x 161 20 = some (.lconst 0, 1, 0, 0, .null) := by decide +kernel
theorem k161_21 : am_cd am_x 161 21 = some (.aload_n 0, 1, 0, 0, .null) := by decide +kernel
theorem k161_22 : am_cd am_x 161 22 = some (.getfield 7, 3, 8, 0, .null) := by decide +kernel
theorem k161_25 : am_cd am_x 161 25 = some (.iconst 2, 1, 0, 0, .null) := by decide +kernel
theorem k161_26 : am_cd am_x 161 26 = some (.iaload, 1, 0, 0, .null) := by decide +kernel
theorem k161_27 : am_cd am_x 161 27 = some (.iconst 1, 1, 0, 0, .null) := by decide +kernel
theorem k161_28 : am_cd am_x 161 28 = some (.isub, 1, 0, 0, .null) := by decide +kernel
theorem k161_29 : am_cd am_x 161 29 = some (.i2l, 1, 0, 0, .null) := by decide +kernel
theorem k161_30 : am_cd am_x 161 30 = some (.invokestatic 60, 3, 125, 0, .null) := by decide +kernel
theorem k161_33 : am_cd am_x 161 33 = some (.ifCond .eq 12, 3, 45, 0, .null) := by decide +kernel
theorem k161_36 : am_cd am_x 161 36 = some (.aload_n 0, 1, 0, 0, .null) := by decide +kernel
theorem k161_37 : am_cd am_x 161 37 = some (.iload_n 1, 1, 0, 0, .null) := by decide +kernel
theorem k161_38 : am_cd am_x 161 38 = some (.iload_n 2, 1, 0, 0, .null) := by decide +kernel
theorem k161_39 : am_cd am_x 161 39 = some (.invokevirtual 185, 3, 155, 8, .null) := by decide +kernel
theorem k161_42 : am_cd am_x 161 42 = some (.goto 4, 3, 46, 0, .null) := by decide +kernel
theorem k161_45 : am_cd am_x 161 45 = some (.iconst (-1), 1, 0, 0, .null) := by decide +kernel
theorem k161_46 : am_cd am_x 161 46 = some (.ireturn, 1, 0, 0, .null) := by decide +kernel
theorem k162_0 : am_cd am_x 162 0 = some (.iload_n 2, 1, 0, 0, .null) := by decide +kernel
theorem k162_1 : am_cd am_x 162 1 = some (.iconst 2, 1, 0, 0, .null) := by decide +kernel
theorem k162_2 : am_cd am_x 162 2 = some (.if_icmp .ge 52, 3, 54, 0, .null) := by decide +kernel
theorem k162_5 : am_cd am_x 162 5 = some (.iload_n 2, 1, 0, 0, .null) := by decide +kernel
theorem k162_6 : am_cd am_x 162 6 = some (.ifCond .ne 24, 3, 30, 0, .null) := by decide +kernel
theorem k162_9 : am_cd am_x 162 9 = some (.aload_n 0, 1, 0, 0, .null) := by decide +kernel
theorem k162_10 : am_cd am_x 162 10 = some (.getfield 7, 3, 8, 0, .null) := by decide +kernel
theorem k162_13 : am_cd am_x 162 13 = some (.sipush 135, 3, 0, 0, .null) := by decide +kernel
theorem k162_16 : am_cd am_x 162 16 = some (.iload_n 1, 1, 0, 0, .null) := by decide +kernel
theorem k162_17 : am_cd am_x 162 17 = some (.iadd, 1, 0, 0, .null) := by decide +kernel
theorem k162_18 : am_cd am_x 162 18 = some (.iaload, 1, 0, 0, .null) := by decide +kernel
theorem k162_19 : am_cd am_x 162 19 = some (.ifCond .ne 7, 3, 26, 0, .null) := by decide +kernel
theorem k162_22 : am_cd am_x 162 22 = some (.iconst 1, 1, 0, 0, .null) := by decide +kernel
theorem k162_23 : am_cd am_x 162 23 = some (.goto 30, 3, 53, 0, .null) := by decide +kernel
theorem k162_26 : am_cd am_x 162 26 = some (.iconst 0, 1, 0, 0, .null) := by decide +kernel
theorem k162_27 : am_cd am_x 162 27 = some (.goto 26, 3, 53, 0, .null) := by decide +kernel
theorem k162_30 : am_cd am_x 162 30 = some (.aload_n 0, 1, 0, 0, .null) := by decide +kernel
theorem k162_31 : am_cd am_x 162 31 = some (.getfield 7, 3, 8, 0, .null) := by decide +kernel
theorem k162_34 : am_cd am_x 162 34 = some (.sipush 135, 3, 0, 0, .null) := by decide +kernel
theorem k162_37 : am_cd am_x 162 37 = some (.iload_n 1, 1, 0, 0, .null) := by decide +kernel
theorem k162_38 : am_cd am_x 162 38 = some (.iadd, 1, 0, 0, .null) := by decide +kernel
theorem k162_39 : am_cd am_x 162 39 = some (.iaload, 1, 0, 0, .null) := by decide +kernel
theorem k162_40 : am_cd am_x 162 40 = some (.invokestatic 205, 3, 128, 0, .null) := by decide +kernel
theorem k162_43 : am_cd am_x 162 43 = some (.iconst 2, 1, 0, 0, .null) := by decide +kernel
theorem k162_44 : am_cd am_x 162 44 = some (.irem, 1, 0, 0, .null) := by decide +kernel
theorem k162_45 : am_cd am_x 162 45 = some (.ifCond .ne 7, 3, 52, 0, .null) := by decide +kernel
theorem k162_48 : am_cd am_x 162 48 = some (.iconst 1, 1, 0, 0, .null) := by decide +kernel
theorem k162_49 : am_cd am_x 162 49 = some (.goto 4, 3, 53, 0, .null) := by decide +kernel
theorem k162_52 : am_cd am_x 162 52 = some (.iconst 0, 1, 0, 0, .null) := by decide +kernel
theorem k162_53 : am_cd am_x 162 53 = some (.ireturn, 1, 0, 0, .null) := by decide +kernel
theorem k162_54 : am_cd am_x 162 54 = some (.iconst 0, 1, 0, 0, .null) := by decide +kernel
theorem k162_55 : am_cd am_x 162 55 = some (.istore_n 3, 1, 0, 0, .null) := by decide +kernel
theorem k162_56 : am_cd am_x 162 56 = some (.iconst 0, 1, 0, 0, .null) := by decide +kernel
theorem k162_57 : am_cd am_x 162 57 = some (.istore 4, 2, 0, 0, .null) := by decide +kernel
theorem k162_59 : am_cd am_x 162 59 = some (.iload 4, 2, 0, 0, .null) := by decide +kernel
theorem k162_61 : am_cd am_x 162 61 = some (.iload_n 1, 1, 0, 0, .null) := by decide +kernel
theorem k162_62 : am_cd am_x 162 62 = some (.if_icmp .ge 43, 3, 105, 0, .null) := by decide +kernel
theorem k162_65 : am_cd am_x 162 65 = some (.iload_n 3, 1, 0, 0, .null) := by decide +kernel
theorem k162_66 : am_cd am_x 162 66 = some (.ifCond .ne 27, 3, 93, 0, .null) := by decide +kernel
theorem k162_69 : am_cd am_x 162 69 = some (.aload_n 0, 1, 0, 0, .null) := by decide +kernel
theorem k162_70 : am_cd am_x 162 70 = some (.getfield 7, 3, 8, 0, .null) := by decide +kernel
theorem k162_73 : am_cd am_x 162 73 = some (.sipush 135, 3, 0, 0, .null) := by decide +kernel
theorem k162_76 : am_cd am_x 162 76 = some (.iload 4, 2, 0, 0, .null) := by decide +kernel
theorem k162_78 : am_cd am_x 162 78 = some (.iadd, 1, 0, 0, .null) := by decide +kernel
theorem k162_79 : am_cd am_x 162 79 = some (.iaload, 1, 0, 0, .null) := by decide +kernel
theorem k162_80 : am_cd am_x 162 80 = some (.aload_n 0, 1, 0, 0, .null) := by decide +kernel
theorem k162_81 : am_cd am_x 162 81 = some (.getfield 7, 3, 8, 0, .null) := by decide +kernel
theorem k162_84 : am_cd am_x 162 84 = some (.sipush 135, 3, 0, 0, .null) := by decide +kernel
theorem k162_87 : am_cd am_x 162 87 = some (.iload_n 1, 1, 0, 0, .null) := by decide +kernel
theorem k162_88 : am_cd am_x 162 88 = some (.iadd, 1, 0, 0, .null) := by decide +kernel
theorem k162_89 : am_cd am_x 162 89 = some (.iaload, 1, 0, 0, .null) := by decide +kernel
theorem k162_90 : am_cd am_x 162 90 = some (.if_icmp .ne 7, 3, 97, 0, .null) := by decide +kernel
theorem k162_93 : am_cd am_x 162 93 = some (.iconst 1, 1, 0, 0, .null) := by decide +kernel
theorem k162_94 : am_cd am_x 162 94 = some (.goto 4, 3, 98, 0, .null) := by decide +kernel
theorem k162_97 : am_cd am_x 162 97 = some (.iconst 0, 1, 0, 0, .null) := by decide +kernel
theorem k162_98 : am_cd am_x 162 98 = some (.istore_n 3, 1, 0, 0, .null) := by decide +kernel
theorem k162_99 : am_cd am_x 162 99 = some (.iinc 4 1, 3, 0, 0, .null) := by decide +kernel
theorem k162_102 : am_cd am_x 162 102 = some (.goto (-43), 3, 59, 0, .null) := by decide +kernel
theorem k162_105 : am_cd am_x 162 105 = some (.iload_n 3, 1, 0, 0, .null) := by decide +kernel
theorem k162_106 : am_cd am_x 162 106 = some (.ireturn, 1, 0, 0, .null) := by decide +kernel
theorem k163_0 : am_cd am_x 163 0 = some (.iload_n 1, 1, 0, 0, .null) := by decide +kernel
theorem k163_1 : am_cd am_x 163 1 = some (.i2l, 1, 0, 0, .null) := by decide +kernel
theorem k163_2 : am_cd am_x 163 2 = some (.lconst 0, 1, 0, 0, .null) := by decide +kernel
theorem k163_3 : am_cd am_x 163 3 = some (.ldc2_w 200, 3, 0, 0, .long 2) := by decide +kernel
theorem k163_6 : am_cd am_x 163 6 = some (.invokestatic 60, 3, 125, 0, .null) := by decide +kernel
theorem k163_9 : am_cd am_x 163 9 = some (.ifCond .ne 5, 3, 14, 0, .null) := by decide +kernel
theorem k163_12 : am_cd am_x 163 12 = some (.iconst (-1), 1, 0, 0, .null) := by decide +kernel
theorem k163_13 : am_cd am_x 163 13 = some (.ireturn, 1, 0, 0, .null) := by decide +kernel
theorem k163_14 : am_cd am_x 163 14 = some (.iconst 0, 1, 0, 0, .null) := by decide +kernel
theorem k163_15 : am_cd am_x 163 15 = some (.istore_n 2, 1, 0, 0, .null) := by decide +kernel
theorem k163_16 : am_cd am_x 163 16 = some (.iconst 0, 1, 0, 0, .null) := by decide +kernel
theorem k163_17 : am_cd am_x 163 17 = some (.istore_n 3, 1, 0, 0, .null) := by decide +kernel
theorem k163_18 : am_cd am_x 163 18 = some (.iload_n 3, 1, 0, 0, .null) := by decide +kernel
theorem k163_19 : am_cd am_x 163 19 = some (.aload_n 0, 1, 0, 0, .null) := by decide +kernel
theorem k163_20 : am_cd am_x 163 20 = some (.getfield 7, 3, 8, 0, .null) := by decide +kernel
theorem k163_23 : am_cd am_x 163 23 = some (.iconst 0, 1, 0, 0, .null) := by decide +kernel
theorem k163_24 : am_cd am_x 163 24 = some (.iaload, 1, 0, 0, .null) := by decide +kernel
theorem k163_25 : am_cd am_x 163 25 = some (.if_icmp .ge 21, 3, 46, 0, .null) := by decide +kernel
theorem k163_28 : am_cd am_x 163 28 = some (.iload_n 2, 1, 0, 0, .null) := by decide +kernel
theorem k163_29 : am_cd am_x 163 29 = some (.aload_n 0, 1, 0, 0, .null) := by decide +kernel
theorem k163_30 : am_cd am_x 163 30 = some (.iload_n 3, 1, 0, 0, .null) := by decide +kernel
theorem k163_31 : am_cd am_x 163 31 = some (.iload_n 1, 1, 0, 0, .null) := by decide +kernel
theorem k163_32 : am_cd am_x 163 32 = some (.invokevirtual 208, 3, 162, 8, .null) := by decide +kernel
theorem k163_35 : am_cd am_x 163 35 = some (.invokestatic 188, 3, 126, 0, .null) := by decide +kernel
theorem k163_38 : am_cd am_x 163 38 = some (.iadd, 1, 0, 0, .null) := by decide +kernel
theorem k163_39 : am_cd am_x 163 39 = some (.istore_n 2, 1, 0, 0, .null) := by decide +kernel
theorem k163_40 : am_cd am_x 163 40 = some (.iinc 3 1, 3, 0, 0, .null) := by decide +kernel
theorem k163_43 : am_cd am_x 163 43 = some (.goto (-25), 3, 18, 0, .null) := by decide +kernel
theorem k163_46 : am_cd am_x 163 46 = some (.iload_n 2, 1, 0, 0, .null) := by decide +kernel
theorem k163_47 : am_cd am_x 163 47 = some (.ireturn, 1, 0, 0, .null) := by decide +kernel
theorem k164_0 : am_cd am_x 164 0 = some (.iconst 1, 1, 0, 0, .null) := by decide +kernel
theorem k164_1 : am_cd am_x 164 1 = some (.aload_n 0, 1, 0, 0, .null) := by decide +kernel
theorem k164_2 : am_cd am_x 164 2 = some (.getfield 7, 3, 8, 0, .null) := by decide +kernel
theorem k164_5 : am_cd am_x 164 5 = some (.iconst 0, 1, 0, 0, .null) := by decide +kernel
theorem k164_6 : am_cd am_x 164 6 = some (.iaload, 1, 0, 0, .null) := by decide +kernel
theorem k164_7 : am_cd am_x 164 7 = some (.ishl, 1, 0, 0, .null) := by decide +kernel
theorem k164_8 : am_cd am_x 164 8 = some (.iconst 1, 1, 0, 0, .null) := by decide +kernel
theorem k164_9 : am_cd am_x 164 9 = some (.isub, 1, 0, 0, .null) := by decide +kernel
theorem k164_10 : am_cd am_x 164 10 = some (.aload_n 0, 1, 0, 0, .null) := by decide +kernel
theorem k164_11 : am_cd am_x 164 11 = some (.getfield 7, 3, 8, 0, .null) := by decide +kernel
theorem k164_14 : am_cd am_x 164 14 = some (.iconst 3, 1, 0, 0, .null) := by decide +kernel
theorem k164_15 : am_cd am_x 164 15 = some (.iaload, 1, 0, 0, .null) := by decide +kernel
theorem k164_16 : am_cd am_x 164 16 = some (.iconst (-1), 1, 0, 0, .null) := by decide +kernel
theorem k164_17 : am_cd am_x 164 17 = some (.ixor, 1, 0, 0, .null) := by decide +kernel
theorem k164_18 : am_cd am_x 164 18 = some (.iand, 1, 0, 0, .null) := by decide +kernel
theorem k164_19 : am_cd am_x 164 19 = some (.ireturn, 1, 0, 0, .null) := by decide +kernel
theorem k165_0 : am_cd am_x 165 0 = some (.iconst 0, 1, 0, 0, .null) := by decide +kernel
theorem k165_1 : am_cd am_x 165 1 = some (.istore_n 2, 1, 0, 0, .null) := by decide +kernel
theorem k165_2 : am_cd am_x 165 2 = some (.iconst 0, 1, 0, 0, .null) := by decide +kernel
theorem k165_3 : am_cd am_x 165 3 = some (.istore_n 3, 1, 0, 0, .null) := by decide +kernel
theorem k165_4 : am_cd am_x 165 4 = some (.iload_n 3, 1, 0, 0, .null) := by decide +kernel
theorem k165_5 : am_cd am_x 165 5 = some (.aload_n 0, 1, 0, 0, .null) := by decide +kernel
theorem k165_6 : am_cd am_x 165 6 = some (.getfield 7, 3, 8, 0, .null) := by decide +kernel
theorem k165_9 : am_cd am_x 165 9 = some (.iconst 0, 1, 0, 0, .null) := by decide +kernel
theorem k165_10 : am_cd am_x 165 10 = some (.iaload, 1, 0, 0, .null) := by decide +kernel
theorem k165_11 : am_cd am_x 165 11 = some (.if_icmp .ge 34, 3, 45, 0, .null) := by decide +kernel
theorem k165_14 : am_cd am_x 165 14 = some (.iload_n 2, 1, 0, 0, .null) := by decide +kernel
theorem k165_15 : am_cd am_x 165 15 = some (.iload_n 1, 1, 0, 0, .null) := by decide +kernel
theorem k165_16 : am_cd am_x 165 16 = some (.iload_n 3, 1, 0, 0, .null) := by decide +kernel
theorem k165_17 : am_cd am_x 165 17 = some (.invokestatic 178, 3, 127, 0, .null) := by decide +kernel
theorem k165_20 : am_cd am_x 165 20 = some (.ifCond .eq 16, 3, 36, 0, .null) := by decide +kernel
theorem k165_23 : am_cd am_x 165 23 = some (.aload_n 0, 1, 0, 0, .null) := by decide +kernel
theorem k165_24 : am_cd am_x 165 24 = some (.getfield 7, 3, 8, 0, .null) := by decide +kernel
theorem k165_27 : am_cd am_x 165 27 = some (.sipush 135, 3, 0, 0, .null) := by decide +kernel
theorem k165_30 : am_cd am_x 165 30 = some (.iload_n 3, 1, 0, 0, .null) := by decide +kernel
theorem k165_31 : am_cd am_x 165 31 = some (.iadd, 1, 0, 0, .null) := by decide +kernel
theorem k165_32 : am_cd am_x 165 32 = some (.iaload, 1, 0, 0, .null) := by decide +kernel
theorem k165_33 : am_cd am_x 165 33 = some (.goto 4, 3, 37, 0, .null) := by decide +kernel
theorem k165_36 : am_cd am_x 165 36 = some (.iconst 0, 1, 0, 0, .null) := by decide +kernel
theorem k165_37 : am_cd am_x 165 37 = some (.ixor, 1, 0, 0, .null) := by decide +kernel
theorem k165_38 : am_cd am_x 165 38 = some (.istore_n 2, 1, 0, 0, .null) := by decide +kernel
theorem k165_39 : am_cd am_x 165 39 = some (.iinc 3 1, 3, 0, 0, .null) := by decide +kernel
theorem k165_42 : am_cd am_x 165 42 = some (.goto (-38), 3, 4, 0, .null) := by decide +kernel
theorem k165_45 : am_cd am_x 165 45 = some (.iload_n 2, 1, 0, 0, .null) := by decide +kernel
theorem k165_46 : am_cd am_x 165 46 = some (.ireturn, 1, 0, 0, .null) := by decide +kernel
theorem k166_0 : am_cd am_x 166 0 = some (.iconst 0, 1, 0, 0, .null) := by decide +kernel
theorem k166_1 : am_cd am_x 166 1 = some (.istore_n 2, 1, 0, 0, .null) := by decide +kernel
theorem k166_2 : am_cd am_x 166 2 = some (.iconst 0, 1, 0, 0, .null) := by decide +kernel
theorem k166_3 : am_cd am_x 166 3 = some (.istore_n 3, 1, 0, 0, .null) := by decide +kernel
theorem k166_4 : am_cd am_x 166 4 = some (.iload_n 3, 1, 0, 0, .null) := by decide +kernel
theorem k166_5 : am_cd am_x 166 5 = some (.aload_n 0, 1, 0, 0, .null) := by decide +kernel
theorem k166_6 : am_cd am_x 166 6 = some (.getfield 7, 3, 8, 0, .null) := by decide +kernel
theorem k166_9 : am_cd am_x 166 9 = some (.iconst 0, 1, 0, 0, .null) := by decide +kernel
theorem k166_10 : am_cd am_x 166 10 = some (.iaload, 1, 0, 0, .null) := by decide +kernel
theorem k166_11 : am_cd am_x 166 11 = some (.if_icmp .ge 34, 3, 45, 0, .null) := by decide +kernel
theorem k166_14 : am_cd am_x 166 14 = some (.iload_n 2, 1, 0, 0, .null) := by decide +kernel
theorem k166_15 : am_cd am_x 166 15 = some (.iload_n 1, 1, 0, 0, .null) := by decide +kernel
theorem k166_16 : am_cd am_x 166 16 = some (.iload_n 3, 1, 0, 0, .null) := by decide +kernel
theorem k166_17 : am_cd am_x 166 17 = some (.invokestatic 178, 3, 127, 0, .null) := by decide +kernel
theorem k166_20 : am_cd am_x 166 20 = some (.ifCond .eq 16, 3, 36, 0, .null) := by decide +kernel
theorem k166_23 : am_cd am_x 166 23 = some (.aload_n 0, 1, 0, 0, .null) := by decide +kernel
theorem k166_24 : am_cd am_x 166 24 = some (.getfield 7, 3, 8, 0, .null) := by decide +kernel
theorem k166_27 : am_cd am_x 166 27 = some (.sipush 135, 3, 0, 0, .null) := by decide +kernel
theorem k166_30 : am_cd am_x 166 30 = some (.iload_n 3, 1, 0, 0, .null) := by decide +kernel
theorem k166_31 : am_cd am_x 166 31 = some (.iadd, 1, 0, 0, .null) := by decide +kernel
theorem k166_32 : am_cd am_x 166 32 = some (.iaload, 1, 0, 0, .null) := by decide +kernel
theorem k166_33 : am_cd am_x 166 33 = some (.goto 4, 3, 37, 0, .null) := by decide +kernel
theorem k166_36 : am_cd am_x 166 36 = some (.iconst 0, 1, 0, 0, .null) := by decide +kernel
theorem k166_37 : am_cd am_x 166 37 = some (.ior, 1, 0, 0, .null) := by decide +kernel
theorem k166_38 : am_cd am_x 166 38 = some (.istore_n 2, 1, 0, 0, .null) := by decide +kernel
theorem k166_39 : am_cd am_x 166 39 = some (.iinc 3 1, 3, 0, 0, .null) := by decide +kernel
theorem k166_42 : am_cd am_x 166 42 = some (.goto (-38), 3, 4, 0, .null) := by decide +kernel
theorem k166_45 : am_cd am_x 166 45 = some (.iload_n 2, 1, 0, 0, .null) := by decide +kernel
theorem k166_46 : am_cd am_x 166 46 = some (.ireturn, 1, 0, 0, .null) := by decide +kernel
theorem k167_0 : am_cd am_x 167 0 = some (.aload_n 0, 1, 0, 0, .null) := by decide +kernel
theorem k167_1 : am_cd am_x 167 1 = some (.iload_n 1, 1, 0, 0, .null) := by decide +kernel
theorem k167_2 : am_cd am_x 167 2 = some (.invokevirtual 211, 3, 165, 8, .null) := by decide +kernel
theorem k167_5 : am_cd am_x 167 5 = some (.aload_n 0, 1, 0, 0, .null) := by decide +kernel
theorem k167_6 : am_cd am_x 167 6 = some (.iload_n 2, 1, 0, 0, .null) := by decide +kernel
theorem k167_7 : am_cd am_x 167 7 = some (.invokevirtual 214, 3, 166, 8, .null) := by decide +kernel
theorem k167_10 : am_cd am_x 167 10 = some (.iconst (-1), 1, 0, 0, .null) := by decide +kernel
theorem k167_11 : am_cd am_x 167 11 = some (.ixor, 1, 0, 0, .null) := by decide +kernel
theorem k167_12 : am_cd am_x 167 12 = some (.iand, 1, 0, 0, .null) := by decide +kernel
theorem k167_13 : am_cd am_x 167 13 = some (.ifCond .ne 7, 3, 20, 0, .null) := by decide +kernel
theorem k167_16 : am_cd am_x 167 16 = some (.iconst 1, 1, 0, 0, .null) := by decide +kernel
theorem k167_17 : am_cd am_x 167 17 = some (.goto 4, 3, 21, 0, .null) := by decide +kernel
theorem k167_20 : am_cd am_x 167 20 = some (.iconst 0, 1, 0, 0, .null) := by decide +kernel
theorem k167_21 : am_cd am_x 167 21 = some (.ireturn, 1, 0, 0, .null) := by decide +kernel
theorem k168_0 : am_cd am_x 168 0 = some (.aload_n 0, 1, 0, 0, .null) := by decide +kernel
theorem k168_1 : am_cd am_x 168 1 = some (.invokevirtual 217, 3, 164, 8, .null) := by decide +kernel
theorem k168_4 : am_cd am_x 168 4 = some (.istore_n 3, 1, 0, 0, .null) := by decide +kernel
theorem k168_5 : am_cd am_x 168 5 = some (.aload_n 0, 1, 0, 0, .null) := by decide +kernel
theorem k168_6 : am_cd am_x 168 6 = some (.iconst 0, 1, 0, 0, .null) := by decide +kernel
theorem k168_7 : am_cd am_x 168 7 = some (.putfield 220, 3, 8, 19, .int 0) := by decide +kernel
theorem k168_10 : am_cd am_x 168 10 = some (.aload_n 0, 1, 0, 0, .null) := by decide +kernel
theorem k168_11 : am_cd am_x 168 11 = some (.iconst 0, 1, 0, 0, .null) := by decide +kernel
theorem k168_12 : am_cd am_x 168 12 = some (.putfield 223, 3, 8, 20, .int 0) := by decide +kernel
theorem k168_15 : am_cd am_x 168 15 = some (.iconst 1, 1, 0, 0, .null) := by decide +kernel
theorem k168_16 : am_cd am_x 168 16 = some (.istore 4, 2, 0, 0, .null) := by decide +kernel
theorem k168_18 : am_cd am_x 168 18 = some (.iload 4, 2, 0, 0, .null) := by decide +kernel
theorem k168_20 : am_cd am_x 168 20 = some (.iload_n 3, 1, 0, 0, .null) := by decide +kernel
theorem k168_21 : am_cd am_x 168 21 = some (.if_icmp .gt 100, 3, 121, 0, .null) := by decide +kernel
theorem k168_24 : am_cd am_x 168 24 = some (.iload 4, 2, 0, 0, .null) := by decide +kernel
theorem k168_26 : am_cd am_x 168 26 = some (.iload_n 3, 1, 0, 0, .null) := by decide +kernel
theorem k168_27 : am_cd am_x 168 27 = some (.iconst (-1), 1, 0, 0, .null) := by decide +kernel
theorem k168_28 : am_cd am_x 168 28 = some (.ixor, 1, 0, 0, .null) := by decide +kernel
theorem k168_29 : am_cd am_x 168 29 = some (.iand, 1, 0, 0, .null) := by decide +kernel
theorem k168_30 : am_cd am_x 168 30 = some (.ifCond .ne 85, 3, 115, 0, .null) := by decide +kernel
theorem k168_33 : am_cd am_x 168 33 = some (.iload 4, 2, 0, 0, .null) := by decide +kernel
theorem k168_35 : am_cd am_x 168 35 = some (.invokestatic 205, 3, 128, 0, .null) := by decide +kernel
theorem k168_38 : am_cd am_x 168 38 = some (.iload_n 1, 1, 0, 0, .null) := by decide +kernel
theorem k168_39 : am_cd am_x 168 39 = some (.if_icmp .ne 76, 3, 115, 0, .null) := by decide +kernel
theorem k168_42 : am_cd am_x 168 42 = some (.iload_n 3, 1, 0, 0, .null) := by decide +kernel
theorem k168_43 : am_cd am_x 168 43 = some (.iload 4, 2, 0, 0, .null) := by decide +kernel
theorem k168_45 : am_cd am_x 168 45 = some (.iconst (-1), 1, 0, 0, .null) := by decide +kernel
theorem k168_46 : am_cd am_x 168 46 = some (.ixor, 1, 0, 0, .null) := by decide +kernel
theorem k168_47 : am_cd am_x 168 47 = some (.iand, 1, 0, 0, .null) := by decide +kernel
theorem k168_48 : am_cd am_x 168 48 = some (.istore 5, 2, 0, 0, .null) := by decide +kernel
theorem k168_50 : am_cd am_x 168 50 = some (.iconst 0, 1, 0, 0, .null) := by decide +kernel
theorem k168_51 : am_cd am_x 168 51 = some (.istore 6, 2, 0, 0, .null) := by decide +kernel
theorem k168_53 : am_cd am_x 168 53 = some (.iload 6, 2, 0, 0, .null) := by decide +kernel
theorem k168_55 : am_cd am_x 168 55 = some (.iload 5, 2, 0, 0, .null) := by decide +kernel
theorem k168_57 : am_cd am_x 168 57 = some (.if_icmp .gt 58, 3, 115, 0, .null) := by decide +kernel
theorem k168_60 : am_cd am_x 168 60 = some (.iload 6, 2, 0, 0, .null) := by decide +kernel
theorem k168_62 : am_cd am_x 168 62 = some (.iload 5, 2, 0, 0, .null) := by decide +kernel
theorem k168_64 : am_cd am_x 168 64 = some (.iconst (-1), 1, 0, 0, .null) := by decide +kernel
theorem k168_65 : am_cd am_x 168 65 = some (.ixor, 1, 0, 0, .null) := by decide +kernel
theorem k168_66 : am_cd am_x 168 66 = some (.iand, 1, 0, 0, .null) := by decide +kernel
theorem k168_67 : am_cd am_x 168 67 = some (.ifCond .ne 42, 3, 109, 0, .null) := by decide +kernel
theorem k168_70 : am_cd am_x 168 70 = some (.iload 6, 2, 0, 0, .null) := by decide +kernel
theorem k168_72 : am_cd am_x 168 72 = some (.invokestatic 205, 3, 128, 0, .null) := by decide +kernel
theorem k168_75 : am_cd am_x 168 75 = some (.iload_n 2, 1, 0, 0, .null) := by decide +kernel
theorem k168_76 : am_cd am_x 168 76 = some (.if_icmp .ne 33, 3, 109, 0, .null) := by decide +kernel
theorem k168_79 : am_cd am_x 168 79 = some (.aload_n 0, 1, 0, 0, .null) := by decide +kernel
theorem k168_80 : am_cd am_x 168 80 = some (.dup, 1, 0, 0, .null) := by decide +kernel
theorem k168_81 : am_cd am_x 168 81 = some (.getfield 220, 3, 8, 19, .null) := by decide +kernel
theorem k168_84 : am_cd am_x 168 84 = some (.iconst 1, 1, 0, 0, .null) := by decide +kernel
theorem k168_85 : am_cd am_x 168 85 = some (.iadd, 1, 0, 0, .null) := by decide +kernel
theorem k168_86 : am_cd am_x 168 86 = some (.putfield 220, 3, 8, 19, .int 0) := by decide +kernel
theorem k168_89 : am_cd am_x 168 89 = some (.aload_n 0, 1, 0, 0, .null) := by decide +kernel
theorem k168_90 : am_cd am_x 168 90 = some (.dup, 1, 0, 0, .null) := by decide +kernel
theorem k168_91 : am_cd am_x 168 91 = some (.getfield 223, 3, 8, 20, .null) := by decide +kernel
theorem k168_94 : am_cd am_x 168 94 = some (.aload_n 0, 1, 0, 0, .null) := by decide +kernel
theorem k168_95 : am_cd am_x 168 95 = some (.iload 4, 2, 0, 0, .null) := by decide +kernel
theorem k168_97 : am_cd am_x 168 97 = some (.iload 6, 2, 0, 0, .null) := by decide +kernel
theorem k168_99 : am_cd am_x 168 99 = some (.invokevirtual 226, 3, 167, 8, .null) := by decide +kernel
theorem k168_102 : am_cd am_x 168 102 = some (.invokestatic 188, 3, 126, 0, .null) := by decide +kernel
theorem k168_105 : am_cd am_x 168 105 = some (.iadd, 1, 0, 0, .null) := by decide +kernel
theorem k168_106 : am_cd am_x 168 106 = some (.putfield 223, 3, 8, 20, .int 0) := by decide +kernel
theorem k168_109 : am_cd am_x 168 109 = some (.iinc 6 1, 3, 0, 0, .null) := by decide +kernel
theorem k168_112 : am_cd am_x 168 112 = some (.goto (-59), 3, 53, 0, .null) := by decide +kernel
theorem k168_115 : am_cd am_x 168 115 = some (.iinc 4 1, 3, 0, 0, .null) := by decide +kernel
theorem k168_118 : am_cd am_x 168 118 = some (.goto (-100), 3, 18, 0, .null) := by decide +kernel
theorem k168_121 : am_cd am_x 168 121 = some (.return_, 1, 0, 0, .null) := by decide +kernel
theorem k169_0 : am_cd am_x 169 0 = some (.iload_n 1, 1, 0, 0, .null) := by decide +kernel
theorem k169_1 : am_cd am_x 169 1 = some (.i2l, 1, 0, 0, .null) := by decide +kernel
theorem k169_2 : am_cd am_x 169 2 = some (.lconst 1, 1, 0, 0, .null) := by decide +kernel
theorem k169_3 : am_cd am_x 169 3 = some (.ldc2_w 229, 3, 0, 0, .long 8) := by decide +kernel
theorem k169_6 : am_cd am_x 169 6 = some (.invokestatic 60, 3, 125, 0, .null) := by decide +kernel
theorem k169_9 : am_cd am_x 169 9 = some (.ifCond .eq 22, 3, 31, 0, .null) := by decide +kernel
theorem k169_12 : am_cd am_x 169 12 = some (.iload_n 2, 1, 0, 0, .null) := by decide +kernel
theorem k169_13 : am_cd am_x 169 13 = some (.i2l, 1, 0, 0, .null) := by decide +kernel
theorem k169_14 : am_cd am_x 169 14 = some (.lconst 0, 1, 0, 0, .null) := by decide +kernel
theorem k169_15 : am_cd am_x 169 15 = some (.ldc2_w 229, 3, 0, 0, .long 8) := by decide +kernel
theorem k169_18 : am_cd am_x 169 18 = some (.invokestatic 60, 3, 125, 0, .null) := by decide +kernel
theorem k169_21 : am_cd am_x 169 21 = some (.ifCond .eq 10, 3, 31, 0, .null) := by decide +kernel
theorem k169_24 : am_cd am_x 169 24 = some (.iload_n 3, 1, 0, 0, .null) := by decide +kernel
theorem k169_25 : am_cd am_x 169 25 = some (.invokestatic 231, 3, 153, 0, .null) := by decide +kernel
theorem k169_28 : am_cd am_x 169 28 = some (.ifCond .ne 5, 3, 33, 0, .null) := by decide +kernel
theorem k169_31 : am_cd am_x 169 31 = some (.iconst (-1), 1, 0, 0, .null) := by decide +kernel
theorem k169_32 : am_cd am_x 169 32 = some (.ireturn, 1, 0, 0, .null) := by decide +kernel
theorem k169_33 : am_cd am_x 169 33 = some (.aload_n 0, 1, 0, 0, .null) := by decide +kernel
theorem k169_34 : am_cd am_x 169 34 = some (.iload_n 1, 1, 0, 0, .null) := by decide +kernel
theorem k169_35 : am_cd am_x 169 35 = some (.iload_n 2, 1, 0, 0, .null) := by decide +kernel
theorem k169_36 : am_cd am_x 169 36 = some (.invokevirtual 234, 3, 168, 8, .null) := by decide +kernel
theorem k169_39 : am_cd am_x 169 39 = some (.iload_n 3, 1, 0, 0, .null) := by decide +kernel
theorem k169_40 : am_cd am_x 169 40 = some (.ifCond .ne 10, 3, 50, 0, .null) := by decide +kernel
theorem k169_43 : am_cd am_x 169 43 = some (.aload_n 0, 1, 0, 0, .null) := by decide +kernel
theorem k169_44 : am_cd am_x 169 44 = some (.getfield 220, 3, 8, 19, .null) := by decide +kernel
theorem k169_47 : am_cd am_x 169 47 = some (.goto 7, 3, 54, 0, .null) := by decide +kernel
theorem k169_50 : am_cd am_x 169 50 = some (.aload_n 0, 1, 0, 0, .null) := by decide +kernel
theorem k169_51 : am_cd am_x 169 51 = some (.getfield 223, 3, 8, 20, .null) := by decide +kernel
theorem k169_54 : am_cd am_x 169 54 = some (.ireturn, 1, 0, 0, .null) := by decide +kernel
theorem k170_0 : am_cd am_x 170 0 = some (.iload_n 1, 1, 0, 0, .null) := by decide +kernel
theorem k170_1 : am_cd am_x 170 1 = some (.i2l, 1, 0, 0, .null) := by decide +kernel
theorem k170_2 : am_cd am_x 170 2 = some (.lconst 0, 1, 0, 0, .null) := by decide +kernel
theorem k170_3 : am_cd am_x 170 3 = some (.ldc2_w 229, 3, 0, 0, .long 8) := by decide +kernel
theorem k170_6 : am_cd am_x 170 6 = some (.invokestatic 60, 3, 125, 0, .null) := by decide +kernel
theorem k170_9 : am_cd am_x 170 9 = some (.ifCond .ne 5, 3, 14, 0, .null) := by decide +kernel
theorem k170_12 : am_cd am_x 170 12 = some (.iconst (-1), 1, 0, 0, .null) := by decide +kernel
theorem k170_13 : am_cd am_x 170 13 = some (.ireturn, 1, 0, 0, .null) := by decide +kernel
theorem k170_14 : am_cd am_x 170 14 = some (.iconst 1, 1, 0, 0, .null) := by decide +kernel
theorem k170_15 : am_cd am_x 170 15 = some (.istore_n 2, 1, 0, 0, .null) := by decide +kernel
theorem k170_16 : am_cd am_x 170 16 = some (.iload_n 2, 1, 0, 0, .null) := by decide +kernel
theorem k170_17 : am_cd am_x 170 17 = some (.bipush 8, 2, 0, 0, .null) := by decide +kernel
theorem k170_19 : am_cd am_x 170 19 = some (.if_icmp .gt 26, 3, 45, 0, .null) := by decide +kernel
theorem k170_22 : am_cd am_x 170 22 = some (.aload_n 0, 1, 0, 0, .null) := by decide +kernel
theorem k170_23 : am_cd am_x 170 23 = some (.iload_n 2, 1, 0, 0, .null) := by decide +kernel
theorem k170_24 : am_cd am_x 170 24 = some (.iload_n 1, 1, 0, 0, .null) := by decide +kernel
theorem k170_25 : am_cd am_x 170 25 = some (.invokevirtual 234, 3, 168, 8, .null) := by decide +kernel
theorem k170_28 : am_cd am_x 170 28 = some (.aload_n 0, 1, 0, 0, .null) := by decide +kernel
theorem k170_29 : am_cd am_x 170 29 = some (.getfield 223, 3, 8, 20, .null) := by decide +kernel
theorem k170_32 : am_cd am_x 170 32 = some (.ifCond .le 7, 3, 39, 0, .null) := by decide +kernel
theorem k170_35 : am_cd am_x 170 35 = some (.iload_n 2, 1, 0, 0, .null) := by decide +kernel
theorem k170_36 : am_cd am_x 170 36 = some (.iconst 1, 1, 0, 0, .null) := by decide +kernel
theorem k170_37 : am_cd am_x 170 37 = some (.isub, 1, 0, 0, .null) := by decide +kernel
theorem k170_38 : am_cd am_x 170 38 = some (.ireturn, 1, 0, 0, .null) := by decide +kernel
theorem k170_39 : am_cd am_x 170 39 = some (.iinc 2 1, 3, 0, 0, .null) := by decide +kernel
theorem k170_42 : am_cd am_x 170 42 = some (.goto (-26), 3, 16, 0, .null) := by decide +kernel
theorem k170_45 : am_cd am_x 170 45 = some (.bipush 8, 2, 0, 0, .null) := by decide +kernel
theorem k170_47 : am_cd am_x 170 47 = some (.ireturn, 1, 0, 0, .null) := by decide +kernel
theorem k171_0 : am_cd am_x 171 0 = some (.aload_n 0, 1, 0, 0, .null) := by decide +kernel
theorem k171_1 : am_cd am_x 171 1 = some (.invokevirtual 217, 3, 164, 8, .null) := by decide +kernel
theorem k171_4 : am_cd am_x 171 4 = some (.istore_n 2, 1, 0, 0, .null) := by decide +kernel
theorem k171_5 : am_cd am_x 171 5 = some (.iload_n 1, 1, 0, 0, .null) := by decide +kernel
theorem k171_6 : am_cd am_x 171 6 = some (.ifCond .lt 11, 3, 17, 0, .null) := by decide +kernel
theorem k171_9 : am_cd am_x 171 9 = some (.iload_n 1, 1, 0, 0, .null) := by decide +kernel
theorem k171_10 : am_cd am_x 171 10 = some (.iload_n 2, 1, 0, 0, .null) := by decide +kernel
theorem k171_11 : am_cd am_x 171 11 = some (.iconst (-1), 1, 0, 0, .null) := by decide +kernel
theorem k171_12 : am_cd am_x 171 12 = some (.ixor, 1, 0, 0, .null) := by decide +kernel
theorem k171_13 : am_cd am_x 171 13 = some (.iand, 1, 0, 0, .null) := by decide +kernel
theorem k171_14 : am_cd am_x 171 14 = some (.ifCond .eq 5, 3, 19, 0, .null) := by decide +kernel
theorem k171_17 : am_cd am_x 171 17 = some (.iconst (-1), 1, 0, 0, .null) := by decide +kernel
theorem k171_18 : am_cd am_x 171 18 = some (.ireturn, 1, 0, 0, .null) := by decide +kernel
theorem k171_19 : am_cd am_x 171 19 = some (.iconst 1, 1, 0, 0, .null) := by decide +kernel
theorem k171_20 : am_cd am_x 171 20 = some (.istore_n 3, 1, 0, 0, .null) := by decide +kernel
theorem k171_21 : am_cd am_x 171 21 = some (.iload_n 3, 1, 0, 0, .null) := by decide +kernel
theorem k171_22 : am_cd am_x 171 22 = some (.iload_n 2, 1, 0, 0, .null) := by decide +kernel
theorem k171_23 : am_cd am_x 171 23 = some (.if_icmp .gt 32, 3, 55, 0, .null) := by decide +kernel
theorem k171_26 : am_cd am_x 171 26 = some (.iload_n 3, 1, 0, 0, .null) := by decide +kernel
theorem k171_27 : am_cd am_x 171 27 = some (.iload_n 2, 1, 0, 0, .null) := by decide +kernel
theorem k171_28 : am_cd am_x 171 28 = some (.iload_n 1, 1, 0, 0, .null) := by decide +kernel
theorem k171_29 : am_cd am_x 171 29 = some (.iconst (-1), 1, 0, 0, .null) := by decide +kernel
theorem k171_30 : am_cd am_x 171 30 = some (.ixor, 1, 0, 0, .null) := by decide +kernel
theorem k171_31 : am_cd am_x 171 31 = some (.iand, 1, 0, 0, .null) := by decide +kernel
theorem k171_32 : am_cd am_x 171 32 = some (.iconst (-1), 1, 0, 0, .null) := by decide +kernel
theorem k171_33 : am_cd am_x 171 33 = some (.ixor, 1, 0, 0, .null) := by decide +kernel
theorem k171_34 : am_cd am_x 171 34 = some (.iand, 1, 0, 0, .null) := by decide +kernel
theorem k171_35 : am_cd am_x 171 35 = some (.ifCond .ne 14, 3, 49, 0, .null) := by decide +kernel
theorem k171_38 : am_cd am_x 171 38 = some (.aload_n 0, 1, 0, 0, .null) := by decide +kernel
theorem k171_39 : am_cd am_x 171 39 = some (.iload_n 3, 1, 0, 0, .null) := by decide +kernel
theorem k171_40 : am_cd am_x 171 40 = some (.iload_n 1, 1, 0, 0, .null) := by decide +kernel
theorem k171_41 : am_cd am_x 171 41 = some (.invokevirtual 226, 3, 167, 8, .null) := by decide +kernel
theorem k171_44 : am_cd am_x 171 44 = some (.ifCond .eq 5, 3, 49, 0, .null) := by decide +kernel
theorem k171_47 : am_cd am_x 171 47 = some (.iload_n 3, 1, 0, 0, .null) := by decide +kernel
theorem k171_48 : am_cd am_x 171 48 = some (.ireturn, 1, 0, 0, .null) := by decide +kernel
theorem k171_49 : am_cd am_x 171 49 = some (.iinc 3 1, 3, 0, 0, .null) := by decide +kernel
theorem k171_52 : am_cd am_x 171 52 = some (.goto (-31), 3, 21, 0, .null) := by decide +kernel
theorem k171_55 : am_cd am_x 171 55 = some (.bipush (-4), 2, 0, 0, .null) := by decide +kernel
theorem k171_57 : am_cd am_x 171 57 = some (.ireturn, 1, 0, 0, .null) := by decide +kernel
theorem k172_0 : am_cd am_x 172 0 = some (.iconst 0, 1, 0, 0, .null) := by decide +kernel
theorem k172_1 : am_cd am_x 172 1 = some (.istore_n 1, 1, 0, 0, .null) := by decide +kernel
theorem k172_2 : am_cd am_x 172 2 = some (.iconst 0, 1, 0, 0, .null) := by decide +kernel
theorem k172_3 : am_cd am_x 172 3 = some (.istore_n 2, 1, 0, 0, .null) := by decide +kernel
theorem k172_4 : am_cd am_x 172 4 = some (.iload_n 2, 1, 0, 0, .null) := by decide +kernel
theorem k172_5 : am_cd am_x 172 5 = some (.aload_n 0, 1, 0, 0, .null) := by decide +kernel
theorem k172_6 : am_cd am_x 172 6 = some (.getfield 7, 3, 8, 0, .null) := by decide +kernel
theorem k172_9 : am_cd am_x 172 9 = some (.iconst 0, 1, 0, 0, .null) := by decide +kernel
theorem k172_10 : am_cd am_x 172 10 = some (.iaload, 1, 0, 0, .null) := by decide +kernel
theorem k172_11 : am_cd am_x 172 11 = some (.if_icmp .ge 39, 3, 50, 0, .null) := by decide +kernel
theorem k172_14 : am_cd am_x 172 14 = some (.iconst 0, 1, 0, 0, .null) := by decide +kernel
theorem k172_15 : am_cd am_x 172 15 = some (.istore_n 3, 1, 0, 0, .null) := by decide +kernel
theorem k172_16 : am_cd am_x 172 16 = some (.iload_n 3, 1, 0, 0, .null) := by decide +kernel
theorem k172_17 : am_cd am_x 172 17 = some (.aload_n 0, 1, 0, 0, .null) := by decide +kernel
theorem k172_18 : am_cd am_x 172 18 = some (.getfield 7, 3, 8, 0, .null) := by decide +kernel
theorem k172_21 : am_cd am_x 172 21 = some (.iconst 1, 1, 0, 0, .null) := by decide +kernel
theorem k172_22 : am_cd am_x 172 22 = some (.iaload, 1, 0, 0, .null) := by decide +kernel
theorem k172_23 : am_cd am_x 172 23 = some (.if_icmp .ge 21, 3, 44, 0, .null) := by decide +kernel
theorem k172_26 : am_cd am_x 172 26 = some (.iload_n 1, 1, 0, 0, .null) := by decide +kernel
theorem k172_27 : am_cd am_x 172 27 = some (.aload_n 0, 1, 0, 0, .null) := by decide +kernel
theorem k172_28 : am_cd am_x 172 28 = some (.iload_n 2, 1, 0, 0, .null) := by decide +kernel
theorem k172_29 : am_cd am_x 172 29 = some (.iload_n 3, 1, 0, 0, .null) := by decide +kernel
theorem k172_30 : am_cd am_x 172 30 = some (.invokevirtual 202, 3, 156, 8, .null) := by decide +kernel
theorem k172_33 : am_cd am_x 172 33 = some (.invokestatic 188, 3, 126, 0, .null) := by decide +kernel
theorem k172_36 : am_cd am_x 172 36 = some (.iadd, 1, 0, 0, .null) := by decide +kernel
theorem k172_37 : am_cd am_x 172 37 = some (.istore_n 1, 1, 0, 0, .null) := by decide +kernel
theorem k172_38 : am_cd am_x 172 38 = some (.iinc 3 1, 3, 0, 0, .null) := by decide +kernel
theorem k172_41 : am_cd am_x 172 41 = some (.goto (-25), 3, 16, 0, .null) := by decide +kernel
theorem k172_44 : am_cd am_x 172 44 = some (.iinc 2 1, 3, 0, 0, .null) := by decide +kernel
theorem k172_47 : am_cd am_x 172 47 = some (.goto (-43), 3, 4, 0, .null) := by decide +kernel
theorem k172_50 : am_cd am_x 172 50 = some (.iload_n 1, 1, 0, 0, .null) := by decide +kernel
theorem k172_51 : am_cd am_x 172 51 = some (.ireturn, 1, 0, 0, .null) := by decide +kernel
theorem k173_0 : am_cd am_x 173 0 = some (.aload_n 0, 1, 0, 0, .null) := by decide +kernel
theorem k173_1 : am_cd am_x 173 1 = some (.getfield 7, 3, 8, 0, .null) := by decide +kernel
theorem k173_4 : am_cd am_x 173 4 = some (.iconst 3, 1, 0, 0, .null) := by decide +kernel
theorem k173_5 : am_cd am_x 173 5 = some (.iaload, 1, 0, 0, .null) := by decide +kernel
theorem k173_6 : am_cd am_x 173 6 = some (.istore_n 1, 1, 0, 0, .null) := by decide +kernel
theorem k173_7 : am_cd am_x 173 7 = some (.iconst 0, 1, 0, 0, .null) := by decide +kernel
theorem k173_8 : am_cd am_x 173 8 = some (.istore_n 2, 1, 0, 0, .null) := by decide +kernel
theorem k173_9 : am_cd am_x 173 9 = some (.iconst (-1), 1, 0, 0, .null) := by decide +kernel
theorem k173_10 : am_cd am_x 173 10 = some (.istore_n 3, 1, 0, 0, .null) := by decide +kernel
theorem k173_11 : am_cd am_x 173 11 = some (.iconst 0, 1, 0, 0, .null) := by decide +kernel
theorem k173_12 : am_cd am_x 173 12 = some (.istore 4, 2, 0, 0, .null) := by decide +kernel
theorem k173_14 : am_cd am_x 173 14 = some (.iload 4, 2, 0, 0, .null) := by decide +kernel
theorem k173_16 : am_cd am_x 173 16 = some (.iconst 1, 1, 0, 0, .null) := by decide +kernel
theorem k173_17 : am_cd am_x 173 17 = some (.aload_n 0, 1, 0, 0, .null) := by decide +kernel
theorem k173_18 : am_cd am_x 173 18 = some (.getfield 7, 3, 8, 0, .null) := by decide +kernel
theorem k173_21 : am_cd am_x 173 21 = some (.iconst 0, 1, 0, 0, .null) := by decide +kernel
theorem k173_22 : am_cd am_x 173 22 = some (.iaload, 1, 0, 0, .null) := by decide +kernel
theorem k173_23 : am_cd am_x 173 23 = some (.ishl, 1, 0, 0, .null) := by decide +kernel
theorem k173_24 : am_cd am_x 173 24 = some (.if_icmp .ge 35, 3, 59, 0, .null) := by decide +kernel
theorem k173_27 : am_cd am_x 173 27 = some (.aload_n 0, 1, 0, 0, .null) := by decide +kernel
theorem k173_28 : am_cd am_x 173 28 = some (.getfield 7, 3, 8, 0, .null) := by decide +kernel
theorem k173_31 : am_cd am_x 173 31 = some (.iconst 3, 1, 0, 0, .null) := by decide +kernel
theorem k173_32 : am_cd am_x 173 32 = some (.iload 4, 2, 0, 0, .null) := by decide +kernel
theorem k173_34 : am_cd am_x 173 34 = some (.iastore, 1, 0, 0, .null) := by decide +kernel
theorem k173_35 : am_cd am_x 173 35 = some (.aload_n 0, 1, 0, 0, .null) := by decide +kernel
theorem k173_36 : am_cd am_x 173 36 = some (.invokevirtual 238, 3, 172, 8, .null) := by decide +kernel
theorem k173_39 : am_cd am_x 173 39 = some (.istore 5, 2, 0, 0, .null) := by decide +kernel
theorem k173_41 : am_cd am_x 173 41 = some (.iload 5, 2, 0, 0, .null) := by decide +kernel
theorem k173_43 : am_cd am_x 173 43 = some (.iload_n 3, 1, 0, 0, .null) := by decide +kernel
theorem k173_44 : am_cd am_x 173 44 = some (.if_icmp .le 9, 3, 53, 0, .null) := by decide +kernel
theorem k173_47 : am_cd am_x 173 47 = some (.iload 5, 2, 0, 0, .null) := by decide +kernel
theorem k173_49 : am_cd am_x 173 49 = some (.istore_n 3, 1, 0, 0, .null) := by decide +kernel
theorem k173_50 : am_cd am_x 173 50 = some (.iload 4, 2, 0, 0, .null) := by decide +kernel
theorem k173_52 : am_cd am_x 173 52 = some (.istore_n 2, 1, 0, 0, .null) := by decide +kernel
theorem k173_53 : am_cd am_x 173 53 = some (.iinc 4 1, 3, 0, 0, .null) := by decide +kernel
theorem k173_56 : am_cd am_x 173 56 = some (.goto (-42), 3, 14, 0, .null) := by decide +kernel
theorem k173_59 : am_cd am_x 173 59 = some (.aload_n 0, 1, 0, 0, .null) := by decide +kernel
theorem k173_60 : am_cd am_x 173 60 = some (.getfield 7, 3, 8, 0, .null) := by decide +kernel
theorem k173_63 : am_cd am_x 173 63 = some (.iconst 3, 1, 0, 0, .null) := by decide +kernel
theorem k173_64 : am_cd am_x 173 64 = some (.iload_n 1, 1, 0, 0, .null) := by decide +kernel
theorem k173_65 : am_cd am_x 173 65 = some (.iastore, 1, 0, 0, .null) := by decide +kernel
theorem k173_66 : am_cd am_x 173 66 = some (.iload_n 2, 1, 0, 0, .null) := by decide +kernel
theorem k173_67 : am_cd am_x 173 67 = some (.ireturn, 1, 0, 0, .null) := by decide +kernel
theorem k174_0 : am_cd am_x 174 0 = some (.aload_n 0, 1, 0, 0, .null) := by decide +kernel
theorem k174_1 : am_cd am_x 174 1 = some (.getfield 7, 3, 8, 0, .null) := by decide +kernel
theorem k174_4 : am_cd am_x 174 4 = some (.iload_n 1, 1, 0, 0, .null) := by decide +kernel
theorem k174_5 : am_cd am_x 174 5 = some (.iaload, 1, 0, 0, .null) := by decide +kernel
theorem k174_6 : am_cd am_x 174 6 = some (.istore_n 3, 1, 0, 0, .null) := by decide +kernel
theorem k174_7 : am_cd am_x 174 7 = some (.aload_n 0, 1, 0, 0, .null) := by decide +kernel
theorem k174_8 : am_cd am_x 174 8 = some (.getfield 7, 3, 8, 0, .null) := by decide +kernel
theorem k174_11 : am_cd am_x 174 11 = some (.iload_n 1, 1, 0, 0, .null) := by decide +kernel
theorem k174_12 : am_cd am_x 174 12 = some (.iload_n 2, 1, 0, 0, .null) := by decide +kernel
theorem k174_13 : am_cd am_x 174 13 = some (.iastore, 1, 0, 0, .null) := by decide +kernel
theorem k174_14 : am_cd am_x 174 14 = some (.iload_n 3, 1, 0, 0, .null) := by decide +kernel
theorem k174_15 : am_cd am_x 174 15 = some (.ireturn, 1, 0, 0, .null) := by decide +kernel
theorem k175_0 : am_cd am_x 175 0 = some (.aload_n 0, 1, 0, 0, .null) := by decide +kernel
theorem k175_1 : am_cd am_x 175 1 = some (.iload_n 1, 1, 0, 0, .null) := by decide +kernel
theorem k175_2 : am_cd am_x 175 2 = some (.iload_n 2, 1, 0, 0, .null) := by decide +kernel
theorem k175_3 : am_cd am_x 175 3 = some (.invokevirtual 197, 3, 152, 8, .null) := by decide +kernel
theorem k175_6 : am_cd am_x 175 6 = some (.ifCond .eq 32, 3, 38, 0, .null) := by decide +kernel
theorem k175_9 : am_cd am_x 175 9 = some (.iload_n 3, 1, 0, 0, .null) := by decide +kernel
theorem k175_10 : am_cd am_x 175 10 = some (.i2l, 1, 0, 0, .null) := by decide +kernel
theorem k175_11 : am_cd am_x 175 11 = some (.lconst 0, 1, 0, 0, .null) := by decide +kernel
theorem k175_12 : am_cd am_x 175 12 = some (.ldc2_w 200, 3, 0, 0, .long 2) := by decide +kernel
theorem k175_15 : am_cd am_x 175 15 = some (.invokestatic 60, 3, 125, 0, .null) := by decide +kernel
theorem k175_18 : am_cd am_x 175 18 = some (.ifCond .eq 20, 3, 38, 0, .null) := by decide +kernel
theorem k175_21 : am_cd am_x 175 21 = some (.aload_n 0, 1, 0, 0, .null) := by decide +kernel
theorem k175_22 : am_cd am_x 175 22 = some (.bipush 7, 2, 0, 0, .null) := by decide +kernel
theorem k175_24 : am_cd am_x 175 24 = some (.bipush 8, 2, 0, 0, .null) := by decide +kernel
theorem k175_26 : am_cd am_x 175 26 = some (.iload_n 1, 1, 0, 0, .null) := by decide +kernel
theorem k175_27 : am_cd am_x 175 27 = some (.imul, 1, 0, 0, .null) := by decide +kernel
theorem k175_28 : am_cd am_x 175 28 = some (.iadd, 1, 0, 0, .null) := by decide +kernel
theorem k175_29 : am_cd am_x 175 29 = some (.iload_n 2, 1, 0, 0, .null) := by decide +kernel
theorem k175_30 : am_cd am_x 175 30 = some (.iadd, 1, 0, 0, .null) := by decide +kernel
theorem k175_31 : am_cd am_x 175 31 = some (.iload_n 3, 1, 0, 0, .null) := by decide +kernel
theorem k175_32 : am_cd am_x 175 32 = some (.invokevirtual 241, 3, 174, 8, .null) := by decide +kernel
theorem k175_35 : am_cd am_x 175 35 = some (.goto 4, 3, 39, 0, .null) := by decide +kernel
theorem k175_38 : am_cd am_x 175 38 = some (.iconst (-1), 1, 0, 0, .null) := by decide +kernel
theorem k175_39 : am_cd am_x 175 39 = some (.ireturn, 1, 0, 0, .null) := by decide +kernel
theorem k176_0 : am_cd am_x 176 0 = some (.aload_n 0, 1, 0, 0, .null) := by decide +kernel
theorem k176_1 : am_cd am_x 176 1 = some (.iload_n 1, 1, 0, 0, .null) := by decide +kernel
theorem k176_2 : am_cd am_x 176 2 = some (.invokevirtual 174, 3, 151, 8, .null) := by decide +kernel
theorem k176_5 : am_cd am_x 176 5 = some (.ifCond .eq 36, 3, 41, 0, .null) := by decide +kernel
theorem k176_8 : am_cd am_x 176 8 = some (.iload_n 2, 1, 0, 0, .null) := by decide +kernel
theorem k176_9 : am_cd am_x 176 9 = some (.i2l, 1, 0, 0, .null) := by decide +kernel
theorem k176_10 : am_cd am_x 176 10 = some (.lconst 0, 1, 0, 0, .null) := by decide +kernel
theorem k176_11 : am_cd am_x 176 11 = some (.iconst 1, 1, 0, 0, .null) := by decide +kernel
theorem k176_12 : am_cd am_x 176 12 = some (.aload_n 0, 1, 0, 0, .null) := by decide +kernel
theorem k176_13 : am_cd am_x 176 13 = some (.getfield 7, 3, 8, 0, .null) := by decide +kernel
theorem k176_16 : am_cd am_x 176 16 = some (.iconst 2, 1, 0, 0, .null) := by decide +kernel
theorem k176_17 : am_cd am_x 176 17 = some (.iaload, 1, 0, 0, .null) := by decide +kernel
theorem k176_18 : am_cd am_x 176 18 = some (.ishl, 1, 0, 0, .null) := by decide +kernel
theorem k176_19 : am_cd am_x 176 19 = some (.iconst 1, 1, 0, 0, .null) := by decide +kernel
theorem k176_20 : am_cd am_x 176 20 = some (.isub, 1, 0, 0, .null) := by decide +kernel
theorem k176_21 : am_cd am_x 176 21 = some (.i2l, 1, 0, 0, .null) := by decide +kernel
theorem k176_22 : am_cd am_x 176 22 = some (.invokestatic 60, 3, 125, 0, .null) := by decide +kernel
theorem k176_25 : am_cd am_x 176 25 = some (.ifCond .eq 16, 3, 41, 0, .null) := by decide +kernel
theorem k176_28 : am_cd am_x 176 28 = some (.aload_n 0, 1, 0, 0, .null) := by decide +kernel
theorem k176_29 : am_cd am_x 176 29 = some (.sipush 135, 3, 0, 0, .null) := by decide +kernel
theorem k176_32 : am_cd am_x 176 32 = some (.iload_n 1, 1, 0, 0, .null) := by decide +kernel
theorem k176_33 : am_cd am_x 176 33 = some (.iadd, 1, 0, 0, .null) := by decide +kernel
theorem k176_34 : am_cd am_x 176 34 = some (.iload_n 2, 1, 0, 0, .null) := by decide +kernel
theorem k176_35 : am_cd am_x 176 35 = some (.invokevirtual 241, 3, 174, 8, .null) := by decide +kernel
theorem k176_38 : am_cd am_x 176 38 = some (.goto 4, 3, 42, 0, .null) := by decide +kernel
theorem k176_41 : am_cd am_x 176 41 = some (.iconst (-1), 1, 0, 0, .null) := by decide +kernel
theorem k176_42 : am_cd am_x 176 42 = some (.ireturn, 1, 0, 0, .null) := by decide +kernel
theorem k177_0 : am_cd am_x 177 0 = some (.iload_n 1, 1, 0, 0, .null) := by decide +kernel
theorem k177_1 : am_cd am_x 177 1 = some (.i2l, 1, 0, 0, .null) := by decide +kernel
theorem k177_2 : am_cd am_x 177 2 = some (.lconst 0, 1, 0, 0, .null) := by decide +kernel
theorem k177_3 : am_cd am_x 177 3 = some (.iconst 1, 1, 0, 0, .null) := by decide +kernel
theorem k177_4 : am_cd am_x 177 4 = some (.aload_n 0, 1, 0, 0, .null) := by decide +kernel
theorem k177_5 : am_cd am_x 177 5 = some (.getfield 7, 3, 8, 0, .null) := by decide +kernel
theorem k177_8 : am_cd am_x 177 8 = some (.iconst 0, 1, 0, 0, .null) := by decide +kernel
theorem k177_9 : am_cd am_x 177 9 = some (.iaload, 1, 0, 0, .null) := by decide +kernel
theorem k177_10 : am_cd am_x 177 10 = some (.ishl, 1, 0, 0, .null) := by decide +kernel
theorem k177_11 : am_cd am_x 177 11 = some (.iconst 1, 1, 0, 0, .null) := by decide +kernel
theorem k177_12 : am_cd am_x 177 12 = some (.isub, 1, 0, 0, .null) := by decide +kernel
theorem k177_13 : am_cd am_x 177 13 = some (.i2l, 1, 0, 0, .null) := by decide +kernel
theorem k177_14 : am_cd am_x 177 14 = some (.invokestatic 60, 3, 125, 0, .null) := by decide +kernel
theorem k177_17 : am_cd am_x 177 17 = some (.ifCond .eq 12, 3, 29, 0, .null) := by decide +kernel
theorem k177_20 : am_cd am_x 177 20 = some (.aload_n 0, 1, 0, 0, .null) := by decide +kernel
theorem k177_21 : am_cd am_x 177 21 = some (.iconst 3, 1, 0, 0, .null) := by decide +kernel
theorem k177_22 : am_cd am_x 177 22 = some (.iload_n 1, 1, 0, 0, .null) := by decide +kernel
theorem k177_23 : am_cd am_x 177 23 = some (.invokevirtual 241, 3, 174, 8, .null) := by decide +kernel
theorem k177_26 : am_cd am_x 177 26 = some (.goto 4, 3, 30, 0, .null) := by decide +kernel
theorem k177_29 : am_cd am_x 177 29 = some (.iconst (-1), 1, 0, 0, .null) := by decide +kernel
theorem k177_30 : am_cd am_x 177 30 = some (.ireturn, 1, 0, 0, .null) := by decide +kernel
theorem k178_0 : am_cd am_x 178 0 = some (.iload_n 1, 1, 0, 0, .null) := by decide +kernel
theorem k178_1 : am_cd am_x 178 1 = some (.istore_n 2, 1, 0, 0, .null) := by decide +kernel
theorem k178_2 : am_cd am_x 178 2 = some (.iconst 0, 1, 0, 0, .null) := by decide +kernel
theorem k178_3 : am_cd am_x 178 3 = some (.istore_n 3, 1, 0, 0, .null) := by decide +kernel
theorem k178_4 : am_cd am_x 178 4 = some (.iload_n 3, 1, 0, 0, .null) := by decide +kernel
theorem k178_5 : am_cd am_x 178 5 = some (.aload_n 0, 1, 0, 0, .null) := by decide +kernel
theorem k178_6 : am_cd am_x 178 6 = some (.getfield 7, 3, 8, 0, .null) := by decide +kernel
theorem k178_9 : am_cd am_x 178 9 = some (.iconst 0, 1, 0, 0, .null) := by decide +kernel
theorem k178_10 : am_cd am_x 178 10 = some (.iaload, 1, 0, 0, .null) := by decide +kernel
theorem k178_11 : am_cd am_x 178 11 = some (.if_icmp .ge 87, 3, 98, 0, .null) := by decide +kernel
theorem k178_14 : am_cd am_x 178 14 = some (.iconst 0, 1, 0, 0, .null) := by decide +kernel
theorem k178_15 : am_cd am_x 178 15 = some (.istore 4, 2, 0, 0, .null) := by decide +kernel
theorem k178_17 : am_cd am_x 178 17 = some (.iload 4, 2, 0, 0, .null) := by decide +kernel
theorem k178_19 : am_cd am_x 178 19 = some (.aload_n 0, 1, 0, 0, .null) := by decide +kernel
theorem k178_20 : am_cd am_x 178 20 = some (.getfield 7, 3, 8, 0, .null) := by decide +kernel
theorem k178_23 : am_cd am_x 178 23 = some (.iconst 1, 1, 0, 0, .null) := by decide +kernel
theorem k178_24 : am_cd am_x 178 24 = some (.iaload, 1, 0, 0, .null) := by decide +kernel
theorem k178_25 : am_cd am_x 178 25 = some (.if_icmp .ge 67, 3, 92, 0, .null) := by decide +kernel
theorem k178_28 : am_cd am_x 178 28 = some (.iload_n 2, 1, 0, 0, .null) := by decide +kernel
theorem k178_29 : am_cd am_x 178 29 = some (.ldc 244, 2, 0, 0, .int 1103515245) := by decide +kernel
theorem k178_31 : am_cd am_x 178 31 = some (.imul, 1, 0, 0, .null) := by decide +kernel
theorem k178_32 : am_cd am_x 178 32 = some (.sipush 12345, 3, 0, 0, .null) := by decide +kernel
theorem k178_35 : am_cd am_x 178 35 = some (.iadd, 1, 0, 0, .null) := by decide +kernel
theorem k178_36 : am_cd am_x 178 36 = some (.istore_n 2, 1, 0, 0, .null) := by decide +kernel
theorem k178_37 : am_cd am_x 178 37 = some (.iload_n 2, 1, 0, 0, .null) := by decide +kernel
theorem k178_38 : am_cd am_x 178 38 = some (.bipush 16, 2, 0, 0, .null) := by decide +kernel
theorem k178_40 : am_cd am_x 178 40 = some (.ishr, 1, 0, 0, .null) := by decide +kernel
theorem k178_41 : am_cd am_x 178 41 = some (.sipush 32767, 3, 0, 0, .null) := by decide +kernel
theorem k178_44 : am_cd am_x 178 44 = some (.iand, 1, 0, 0, .null) := by decide +kernel
theorem k178_45 : am_cd am_x 178 45 = some (.iconst 5, 1, 0, 0, .null) := by decide +kernel
theorem k178_46 : am_cd am_x 178 46 = some (.irem, 1, 0, 0, .null) := by decide +kernel
theorem k178_47 : am_cd am_x 178 47 = some (.istore 5, 2, 0, 0, .null) := by decide +kernel
theorem k178_49 : am_cd am_x 178 49 = some (.aload_n 0, 1, 0, 0, .null) := by decide +kernel
theorem k178_50 : am_cd am_x 178 50 = some (.getfield 7, 3, 8, 0, .null) := by decide +kernel
theorem k178_53 : am_cd am_x 178 53 = some (.bipush 7, 2, 0, 0, .null) := by decide +kernel
theorem k178_55 : am_cd am_x 178 55 = some (.bipush 8, 2, 0, 0, .null) := by decide +kernel
theorem k178_57 : am_cd am_x 178 57 = some (.iload_n 3, 1, 0, 0, .null) := by decide +kernel
theorem k178_58 : am_cd am_x 178 58 = some (.imul, 1, 0, 0, .null) := by decide +kernel
theorem k178_59 : am_cd am_x 178 59 = some (.iadd, 1, 0, 0, .null) := by decide +kernel
theorem k178_60 : am_cd am_x 178 60 = some (.iload 4, 2, 0, 0, .null) := by decide +kernel
theorem k178_62 : am_cd am_x 178 62 = some (.iadd, 1, 0, 0, .null) := by decide +kernel
theorem k178_63 : am_cd am_x 178 63 = some (.iload 5, 2, 0, 0, .null) := by decide +kernel
theorem k178_65 : am_cd am_x 178 65 = some (.iconst 4, 1, 0, 0, .null) := by decide +kernel
theorem k178_66 : am_cd am_x 178 66 = some (.if_icmp .ne 7, 3, 73, 0, .null) := by decide +kernel
theorem k178_69 : am_cd am_x 178 69 = some (.iconst 2, 1, 0, 0, .null) := by decide +kernel
theorem k178_70 : am_cd am_x 178 70 = some (.goto 15, 3, 85, 0, .null) := by decide +kernel
theorem k178_73 : am_cd am_x 178 73 = some (.iload 5, 2, 0, 0, .null) := by decide +kernel
theorem k178_75 : am_cd am_x 178 75 = some (.iconst 3, 1, 0, 0, .null) := by decide +kernel
theorem k178_76 : am_cd am_x 178 76 = some (.if_icmp .ne 7, 3, 83, 0, .null) := by decide +kernel
theorem k178_79 : am_cd am_x 178 79 = some (.iconst 0, 1, 0, 0, .null) := by decide +kernel
theorem k178_80 : am_cd am_x 178 80 = some (.goto 5, 3, 85, 0, .null) := by decide +kernel
theorem k178_83 : am_cd am_x 178 83 = some (.iload 5, 2, 0, 0, .null) := by decide +kernel
theorem k178_85 : am_cd am_x 178 85 = some (.iastore, 1, 0, 0, .null) := by decide +kernel
theorem k178_86 : am_cd am_x 178 86 = some (.iinc 4 1, 3, 0, 0, .null) := by decide +kernel
theorem k178_89 : am_cd am_x 178 89 = some (.goto (-72), 3, 17, 0, .null) := by decide +kernel
theorem k178_92 : am_cd am_x 178 92 = some (.iinc 3 1, 3, 0, 0, .null) := by decide +kernel
theorem k178_95 : am_cd am_x 178 95 = some (.goto (-91), 3, 4, 0, .null) := by decide +kernel
theorem k178_98 : am_cd am_x 178 98 = some (.aload_n 0, 1, 0, 0, .null) := by decide +kernel
theorem k178_99 : am_cd am_x 178 99 = some (.iconst 2, 1, 0, 0, .null) := by decide +kernel
theorem k178_100 : am_cd am_x 178 100 = some (.invokevirtual 194, 3, 157, 8, .null) := by decide +kernel
theorem k178_103 : am_cd am_x 178 103 = some (.ireturn, 1, 0, 0, .null) := by decide +kernel
theorem k179_0 : am_cd am_x 179 0 = some (.aload_n 0, 1, 0, 0, .null) := by decide +kernel
theorem k179_1 : am_cd am_x 179 1 = some (.iload_n 1, 1, 0, 0, .null) := by decide +kernel
theorem k179_2 : am_cd am_x 179 2 = some (.iload_n 2, 1, 0, 0, .null) := by decide +kernel
theorem k179_3 : am_cd am_x 179 3 = some (.invokevirtual 197, 3, 152, 8, .null) := by decide +kernel
theorem k179_6 : am_cd am_x 179 6 = some (.ifCond .eq 32, 3, 38, 0, .null) := by decide +kernel
theorem k179_9 : am_cd am_x 179 9 = some (.iload_n 3, 1, 0, 0, .null) := by decide +kernel
theorem k179_10 : am_cd am_x 179 10 = some (.i2l, 1, 0, 0, .null) := by decide +kernel
theorem k179_11 : am_cd am_x 179 11 = some (.lconst 0, 1, 0, 0, .null) := by decide +kernel
theorem k179_12 : am_cd am_x 179 12 = some (.ldc2_w 200, 3, 0, 0, .long 2) := by decide +kernel
theorem k179_15 : am_cd am_x 179 15 = some (.invokestatic 60, 3, 125, 0, .null) := by decide +kernel
theorem k179_18 : am_cd am_x 179 18 = some (.ifCond .eq 20, 3, 38, 0, .null) := by decide +kernel
theorem k179_21 : am_cd am_x 179 21 = some (.aload_n 0, 1, 0, 0, .null) := by decide +kernel
theorem k179_22 : am_cd am_x 179 22 = some (.bipush 71, 2, 0, 0, .null) := by decide +kernel
theorem k179_24 : am_cd am_x 179 24 = some (.bipush 8, 2, 0, 0, .null) := by decide +kernel
theorem k179_26 : am_cd am_x 179 26 = some (.iload_n 1, 1, 0, 0, .null) := by decide +kernel
theorem k179_27 : am_cd am_x 179 27 = some (.imul, 1, 0, 0, .null) := by decide +kernel
theorem k179_28 : am_cd am_x 179 28 = some (.iadd, 1, 0, 0, .null) := by decide +kernel
theorem k179_29 : am_cd am_x 179 29 = some (.iload_n 2, 1, 0, 0, .null) := by decide +kernel
theorem k179_30 : am_cd am_x 179 30 = some (.iadd, 1, 0, 0, .null) := by decide +kernel
theorem k179_31 : am_cd am_x 179 31 = some (.iload_n 3, 1, 0, 0, .null) := by decide +kernel
theorem k179_32 : am_cd am_x 179 32 = some (.invokevirtual 241, 3, 174, 8, .null) := by decide +kernel
theorem k179_35 : am_cd am_x 179 35 = some (.goto 4, 3, 39, 0, .null) := by decide +kernel
theorem k179_38 : am_cd am_x 179 38 = some (.iconst (-1), 1, 0, 0, .null) := by decide +kernel
theorem k179_39 : am_cd am_x 179 39 = some (.ireturn, 1, 0, 0, .null) := by decide +kernel
theorem k180_0 : am_cd am_x 180 0 = some (.iload_n 1, 1, 0, 0, .null) := by decide +kernel
theorem k180_1 : am_cd am_x 180 1 = some (.iconst 1, 1, 0, 0, .null) := by decide +kernel
theorem k180_2 : am_cd am_x 180 2 = some (.ishr, 1, 0, 0, .null) := by decide +kernel
theorem k180_3 : am_cd am_x 180 3 = some (.iload_n 1, 1, 0, 0, .null) := by decide +kernel
theorem k180_4 : am_cd am_x 180 4 = some (.aload_n 0, 1, 0, 0, .null) := by decide +kernel
theorem k180_5 : am_cd am_x 180 5 = some (.getfield 7, 3, 8, 0, .null) := by decide +kernel
theorem k180_8 : am_cd am_x 180 8 = some (.iconst 5, 1, 0, 0, .null) := by decide +kernel
theorem k180_9 : am_cd am_x 180 9 = some (.iaload, 1, 0, 0, .null) := by decide +kernel
theorem k180_10 : am_cd am_x 180 10 = some (.iand, 1, 0, 0, .null) := by decide +kernel
theorem k180_11 : am_cd am_x 180 11 = some (.invokestatic 205, 3, 128, 0, .null) := by decide +kernel
theorem k180_14 : am_cd am_x 180 14 = some (.iconst 2, 1, 0, 0, .null) := by decide +kernel
theorem k180_15 : am_cd am_x 180 15 = some (.irem, 1, 0, 0, .null) := by decide +kernel
theorem k180_16 : am_cd am_x 180 16 = some (.aload_n 0, 1, 0, 0, .null) := by decide +kernel
theorem k180_17 : am_cd am_x 180 17 = some (.getfield 7, 3, 8, 0, .null) := by decide +kernel
theorem k180_20 : am_cd am_x 180 20 = some (.iconst 4, 1, 0, 0, .null) := by decide +kernel
theorem k180_21 : am_cd am_x 180 21 = some (.iaload, 1, 0, 0, .null) := by decide +kernel
theorem k180_22 : am_cd am_x 180 22 = some (.iconst 1, 1, 0, 0, .null) := by decide +kernel
theorem k180_23 : am_cd am_x 180 23 = some (.isub, 1, 0, 0, .null) := by decide +kernel
theorem k180_24 : am_cd am_x 180 24 = some (.ishl, 1, 0, 0, .null) := by decide +kernel
theorem k180_25 : am_cd am_x 180 25 = some (.ior, 1, 0, 0, .null) := by decide +kernel
theorem k180_26 : am_cd am_x 180 26 = some (.ireturn, 1, 0, 0, .null) := by decide +kernel
theorem k181_0 : am_cd am_x 181 0 = some (.iload_n 1, 1, 0, 0, .null) := by decide +kernel
theorem k181_1 : am_cd am_x 181 1 = some (.iconst 3, 1, 0, 0, .null) := by decide +kernel
theorem k181_2 : am_cd am_x 181 2 = some (.iload_n 2, 1, 0, 0, .null) := by decide +kernel
theorem k181_3 : am_cd am_x 181 3 = some (.imul, 1, 0, 0, .null) := by decide +kernel
theorem k181_4 : am_cd am_x 181 4 = some (.aload_n 0, 1, 0, 0, .null) := by decide +kernel
theorem k181_5 : am_cd am_x 181 5 = some (.getfield 7, 3, 8, 0, .null) := by decide +kernel
theorem k181_8 : am_cd am_x 181 8 = some (.iconst 4, 1, 0, 0, .null) := by decide +kernel
theorem k181_9 : am_cd am_x 181 9 = some (.iaload, 1, 0, 0, .null) := by decide +kernel
theorem k181_10 : am_cd am_x 181 10 = some (.irem, 1, 0, 0, .null) := by decide +kernel
theorem k181_11 : am_cd am_x 181 11 = some (.ishr, 1, 0, 0, .null) := by decide +kernel
theorem k181_12 : am_cd am_x 181 12 = some (.iconst 1, 1, 0, 0, .null) := by decide +kernel
theorem k181_13 : am_cd am_x 181 13 = some (.iand, 1, 0, 0, .null) := by decide +kernel
theorem k181_14 : am_cd am_x 181 14 = some (.ireturn, 1, 0, 0, .null) := by decide +kernel
theorem k182_0 : am_cd am_x 182 0 = some (.iload_n 1, 1, 0, 0, .null) := by decide +kernel
theorem k182_1 : am_cd am_x 182 1 = some (.i2l, 1, 0, 0, .null) := by decide +kernel
theorem k182_2 : am_cd am_x 182 2 = some (.lconst 0, 1, 0, 0, .null) := by decide +kernel
theorem k182_3 : am_cd am_x 182 3 = some (.iconst 1, 1, 0, 0, .null) := by decide +kernel
theorem k182_4 : am_cd am_x 182 4 = some (.aload_n 0, 1, 0, 0, .null) := by decide +kernel
theorem k182_5 : am_cd am_x 182 5 = some (.getfield 7, 3, 8, 0, .null) := by decide +kernel
theorem k182_8 : am_cd am_x 182 8 = some (.iconst 4, 1, 0, 0, .null) := by decide +kernel
theorem k182_9 : am_cd am_x 182 9 = some (.iaload, 1, 0, 0, .null) := by decide +kernel
theorem k182_10 : am_cd am_x 182 10 = some (.ishl, 1, 0, 0, .null) := by decide +kernel
theorem k182_11 : am_cd am_x 182 11 = some (.iconst 1, 1, 0, 0, .null) := by decide +kernel
theorem k182_12 : am_cd am_x 182 12 = some (.isub, 1, 0, 0, .null) := by decide +kernel
theorem k182_13 : am_cd am_x 182 13 = some (.i2l, 1, 0, 0, .null) := by decide +kernel
theorem k182_14 : am_cd am_x 182 14 = some (.invokestatic 60, 3, 125, 0, .null) := by decide +kernel
theorem k182_17 : am_cd am_x 182 17 = some (.ireturn, 1, 0, 0, .null) := by decide +kernel
theorem k183_0 : am_cd am_x 183 0 = some (.aload_n 0, 1, 0, 0, .null) := by decide +kernel
theorem k183_1 : am_cd am_x 183 1 = some (.iload_n 1, 1, 0, 0, .null) := by decide +kernel
theorem k183_2 : am_cd am_x 183 2 = some (.invokevirtual 245, 3, 182, 8, .null) := by decide +kernel
theorem k183_5 : am_cd am_x 183 5 = some (.ifCond .eq 12, 3, 17, 0, .null) := by decide +kernel
theorem k183_8 : am_cd am_x 183 8 = some (.aload_n 0, 1, 0, 0, .null) := by decide +kernel
theorem k183_9 : am_cd am_x 183 9 = some (.iload_n 2, 1, 0, 0, .null) := by decide +kernel
theorem k183_10 : am_cd am_x 183 10 = some (.iload_n 3, 1, 0, 0, .null) := by decide +kernel
theorem k183_11 : am_cd am_x 183 11 = some (.invokevirtual 197, 3, 152, 8, .null) := by decide +kernel
theorem k183_14 : am_cd am_x 183 14 = some (.ifCond .ne 5, 3, 19, 0, .null) := by decide +kernel
theorem k183_17 : am_cd am_x 183 17 = some (.iconst (-1), 1, 0, 0, .null) := by decide +kernel
theorem k183_18 : am_cd am_x 183 18 = some (.ireturn, 1, 0, 0, .null) := by decide +kernel
theorem k183_19 : am_cd am_x 183 19 = some (.iload_n 1, 1, 0, 0, .null) := by decide +kernel
theorem k183_20 : am_cd am_x 183 20 = some (.istore 4, 2, 0, 0, .null) := by decide +kernel
theorem k183_22 : am_cd am_x 183 22 = some (.iconst 0, 1, 0, 0, .null) := by decide +kernel
theorem k183_23 : am_cd am_x 183 23 = some (.istore 5, 2, 0, 0, .null) := by decide +kernel
theorem k183_25 : am_cd am_x 183 25 = some (.iload 5, 2, 0, 0, .null) := by decide +kernel
theorem k183_27 : am_cd am_x 183 27 = some (.iload_n 3, 1, 0, 0, .null) := by decide +kernel
theorem k183_28 : am_cd am_x 183 28 = some (.if_icmp .ge 17, 3, 45, 0, .null) := by decide +kernel
theorem k183_31 : am_cd am_x 183 31 = some (.aload_n 0, 1, 0, 0, .null) := by decide +kernel
theorem k183_32 : am_cd am_x 183 32 = some (.iload 4, 2, 0, 0, .null) := by decide +kernel
theorem k183_34 : am_cd am_x 183 34 = some (.invokevirtual 248, 3, 180, 8, .null) := by decide +kernel
theorem k183_37 : am_cd am_x 183 37 = some (.istore 4, 2, 0, 0, .null) := by decide +kernel
theorem k183_39 : am_cd am_x 183 39 = some (.iinc 5 1, 3, 0, 0, .null) := by decide +kernel
theorem k183_42 : am_cd am_x 183 42 = some (.goto (-17), 3, 25, 0, .null) := by decide +kernel
theorem k183_45 : am_cd am_x 183 45 = some (.aload_n 0, 1, 0, 0, .null) := by decide +kernel
theorem k183_46 : am_cd am_x 183 46 = some (.iload 4, 2, 0, 0, .null) := by decide +kernel
theorem k183_48 : am_cd am_x 183 48 = some (.iload_n 2, 1, 0, 0, .null) := by decide +kernel
theorem k183_49 : am_cd am_x 183 49 = some (.invokevirtual 251, 3, 181, 8, .null) := by decide +kernel
theorem k183_52 : am_cd am_x 183 52 = some (.ireturn, 1, 0, 0, .null) := by decide +kernel
theorem k184_0 : am_cd am_x 184 0 = some (.iload_n 1, 1, 0, 0, .null) := by decide +kernel
theorem k184_1 : am_cd am_x 184 1 = some (.istore_n 2, 1, 0, 0, .null) := by decide +kernel
theorem k184_2 : am_cd am_x 184 2 = some (.iconst 0, 1, 0, 0, .null) := by decide +kernel
theorem k184_3 : am_cd am_x 184 3 = some (.istore_n 3, 1, 0, 0, .null) := by decide +kernel
theorem k184_4 : am_cd am_x 184 4 = some (.iload_n 3, 1, 0, 0, .null) := by decide +kernel
theorem k184_5 : am_cd am_x 184 5 = some (.aload_n 0, 1, 0, 0, .null) := by decide +kernel
theorem k184_6 : am_cd am_x 184 6 = some (.getfield 7, 3, 8, 0, .null) := by decide +kernel
theorem k184_9 : am_cd am_x 184 9 = some (.iconst 1, 1, 0, 0, .null) := by decide +kernel
theorem k184_10 : am_cd am_x 184 10 = some (.iaload, 1, 0, 0, .null) := by decide +kernel
theorem k184_11 : am_cd am_x 184 11 = some (.if_icmp .ge 72, 3, 83, 0, .null) := by decide +kernel
theorem k184_14 : am_cd am_x 184 14 = some (.iconst 0, 1, 0, 0, .null) := by decide +kernel
theorem k184_15 : am_cd am_x 184 15 = some (.istore 4, 2, 0, 0, .null) := by decide +kernel
theorem k184_17 : am_cd am_x 184 17 = some (.iload 4, 2, 0, 0, .null) := by decide +kernel
theorem k184_19 : am_cd am_x 184 19 = some (.aload_n 0, 1, 0, 0, .null) := by decide +kernel
theorem k184_20 : am_cd am_x 184 20 = some (.getfield 7, 3, 8, 0, .null) := by decide +kernel
theorem k184_23 : am_cd am_x 184 23 = some (.iconst 0, 1, 0, 0, .null) := by decide +kernel
theorem k184_24 : am_cd am_x 184 24 = some (.iaload, 1, 0, 0, .null) := by decide +kernel
theorem k184_25 : am_cd am_x 184 25 = some (.if_icmp .ge 46, 3, 71, 0, .null) := by decide +kernel
theorem k184_28 : am_cd am_x 184 28 = some (.aload_n 0, 1, 0, 0, .null) := by decide +kernel
theorem k184_29 : am_cd am_x 184 29 = some (.getfield 7, 3, 8, 0, .null) := by decide +kernel
theorem k184_32 : am_cd am_x 184 32 = some (.bipush 71, 2, 0, 0, .null) := by decide +kernel
theorem k184_34 : am_cd am_x 184 34 = some (.bipush 8, 2, 0, 0, .null) := by decide +kernel
theorem k184_36 : am_cd am_x 184 36 = some (.iload 4, 2, 0, 0, .null) := by decide +kernel
theorem k184_38 : am_cd am_x 184 38 = some (.imul, 1, 0, 0, .null) := by decide +kernel
theorem k184_39 : am_cd am_x 184 39 = some (.iadd, 1, 0, 0, .null) := by decide +kernel
theorem k184_40 : am_cd am_x 184 40 = some (.iload_n 3, 1, 0, 0, .null) := by decide +kernel
theorem k184_41 : am_cd am_x 184 41 = some (.iadd, 1, 0, 0, .null) := by decide +kernel
theorem k184_42 : am_cd am_x 184 42 = some (.iaload, 1, 0, 0, .null) := by decide +kernel
theorem k184_43 : am_cd am_x 184 43 = some (.istore 5, 2, 0, 0, .null) := by decide +kernel
theorem k184_45 : am_cd am_x 184 45 = some (.iload 5, 2, 0, 0, .null) := by decide +kernel
theorem k184_47 : am_cd am_x 184 47 = some (.iconst 2, 1, 0, 0, .null) := by decide +kernel
theorem k184_48 : am_cd am_x 184 48 = some (.if_icmp .eq 17, 3, 65, 0, .null) := by decide +kernel
theorem k184_51 : am_cd am_x 184 51 = some (.iload 5, 2, 0, 0, .null) := by decide +kernel
theorem k184_53 : am_cd am_x 184 53 = some (.aload_n 0, 1, 0, 0, .null) := by decide +kernel
theorem k184_54 : am_cd am_x 184 54 = some (.iload_n 2, 1, 0, 0, .null) := by decide +kernel
theorem k184_55 : am_cd am_x 184 55 = some (.iload 4, 2, 0, 0, .null) := by decide +kernel
theorem k184_57 : am_cd am_x 184 57 = some (.invokevirtual 251, 3, 181, 8, .null) := by decide +kernel
theorem k184_60 : am_cd am_x 184 60 = some (.if_icmp .eq 5, 3, 65, 0, .null) := by decide +kernel
theorem k184_63 : am_cd am_x 184 63 = some (.iconst 0, 1, 0, 0, .null) := by decide +kernel
theorem k184_64 : am_cd am_x 184 64 = some (.ireturn, 1, 0, 0, .null) := by decide +kernel
theorem k184_65 : am_cd am_x 184 65 = some (.iinc 4 1, 3, 0, 0, .null) := by decide +kernel
theorem k184_68 : am_cd am_x 184 68 = some (.goto (-51), 3, 17, 0, .null) := by decide +kernel
theorem k184_71 : am_cd am_x 184 71 = some (.aload_n 0, 1, 0, 0, .null) := by decide +kernel
theorem k184_72 : am_cd am_x 184 72 = some (.iload_n 2, 1, 0, 0, .null) := by decide +kernel
theorem k184_73 : am_cd am_x 184 73 = some (.invokevirtual 248, 3, 180, 8, .null) := by decide +kernel
theorem k184_76 : am_cd am_x 184 76 = some (.istore_n 2, 1, 0, 0, .null) := by decide +kernel
theorem k184_77 : am_cd am_x 184 77 = some (.iinc 3 1, 3, 0, 0, .null) := by decide +kernel
theorem k184_80 : am_cd am_x 184 80 = some (.goto (-76), 3, 4, 0, .null) := by decide +kernel
theorem k184_83 : am_cd am_x 184 83 = some (.iconst 1, 1, 0, 0, .null) := by decide +kernel
theorem k184_84 : am_cd am_x 184 84 = some (.ireturn, 1, 0, 0, .null) := by decide +kernel
theorem k185_0 : am_cd am_x 185 0 = some (.iload_n 1, 1, 0, 0, .null) := by decide +kernel
theorem k185_1 : am_cd am_x 185 1 = some (.invokestatic 231, 3, 153, 0, .null) := by decide +kernel
theorem k185_4 : am_cd am_x 185 4 = some (.ifCond .ne 5, 3, 9, 0, .null) := by decide +kernel
theorem k185_7 : am_cd am_x 185 7 = some (.iconst (-1), 1, 0, 0, .null) := by decide +kernel
theorem k185_8 : am_cd am_x 185 8 = some (.ireturn, 1, 0, 0, .null) := by decide +kernel
theorem k185_9 : am_cd am_x 185 9 = some (.bipush (-4), 2, 0, 0, .null) := by decide +kernel
theorem k185_11 : am_cd am_x 185 11 = some (.istore_n 2, 1, 0, 0, .null) := by decide +kernel
theorem k185_12 : am_cd am_x 185 12 = some (.iconst 0, 1, 0, 0, .null) := by decide +kernel
theorem k185_13 : am_cd am_x 185 13 = some (.istore_n 3, 1, 0, 0, .null) := by decide +kernel
theorem k185_14 : am_cd am_x 185 14 = some (.iconst 0, 1, 0, 0, .null) := by decide +kernel
theorem k185_15 : am_cd am_x 185 15 = some (.istore 4, 2, 0, 0, .null) := by decide +kernel
theorem k185_17 : am_cd am_x 185 17 = some (.iload 4, 2, 0, 0, .null) := by decide +kernel
theorem k185_19 : am_cd am_x 185 19 = some (.iconst 1, 1, 0, 0, .null) := by decide +kernel
theorem k185_20 : am_cd am_x 185 20 = some (.aload_n 0, 1, 0, 0, .null) := by decide +kernel
theorem k185_21 : am_cd am_x 185 21 = some (.getfield 7, 3, 8, 0, .null) := by decide +kernel
theorem k185_24 : am_cd am_x 185 24 = some (.iconst 4, 1, 0, 0, .null) := by decide +kernel
theorem k185_25 : am_cd am_x 185 25 = some (.iaload, 1, 0, 0, .null) := by decide +kernel
theorem k185_26 : am_cd am_x 185 26 = some (.ishl, 1, 0, 0, .null) := by decide +kernel
theorem k185_27 : am_cd am_x 185 27 = some (.if_icmp .ge 32, 3, 59, 0, .null) := by decide +kernel
theorem k185_30 : am_cd am_x 185 30 = some (.aload_n 0, 1, 0, 0, .null) := by decide +kernel
theorem k185_31 : am_cd am_x 185 31 = some (.iload 4, 2, 0, 0, .null) := by decide +kernel
theorem k185_33 : am_cd am_x 185 33 = some (.invokevirtual 254, 3, 184, 8, .null) := by decide +kernel
theorem k185_36 : am_cd am_x 185 36 = some (.ifCond .eq 17, 3, 53, 0, .null) := by decide +kernel
theorem k185_39 : am_cd am_x 185 39 = some (.iload_n 3, 1, 0, 0, .null) := by decide +kernel
theorem k185_40 : am_cd am_x 185 40 = some (.ifCond .ne 8, 3, 48, 0, .null) := by decide +kernel
theorem k185_43 : am_cd am_x 185 43 = some (.iload 4, 2, 0, 0, .null) := by decide +kernel
theorem k185_45 : am_cd am_x 185 45 = some (.goto 4, 3, 49, 0, .null) := by decide +kernel
theorem k185_48 : am_cd am_x 185 48 = some (.iload_n 2, 1, 0, 0, .null) := by decide +kernel
theorem k185_49 : am_cd am_x 185 49 = some (.istore_n 2, 1, 0, 0, .null) := by decide +kernel
theorem k185_50 : am_cd am_x 185 50 = some (.iinc 3 1, 3, 0, 0, .null) := by decide +kernel
theorem k185_53 : am_cd am_x 185 53 = some (.iinc 4 1, 3, 0, 0, .null) := by decide +kernel
theorem k185_56 : am_cd am_x 185 56 = some (.goto (-39), 3, 17, 0, .null) := by decide +kernel
theorem k185_59 : am_cd am_x 185 59 = some (.iload_n 1, 1, 0, 0, .null) := by decide +kernel
theorem k185_60 : am_cd am_x 185 60 = some (.ifCond .eq 7, 3, 67, 0, .null) := by decide +kernel
theorem k185_63 : am_cd am_x 185 63 = some (.iload_n 3, 1, 0, 0, .null) := by decide +kernel
theorem k185_64 : am_cd am_x 185 64 = some (.ifCond .ne 5, 3, 69, 0, .null) := by decide +kernel
theorem k185_67 : am_cd am_x 185 67 = some (.iload_n 2, 1, 0, 0, .null) := by decide +kernel
theorem k185_68 : am_cd am_x 185 68 = some (.ireturn, 1, 0, 0, .null) := by decide +kernel
theorem k185_69 : am_cd am_x 185 69 = some (.iconst 0, 1, 0, 0, .null) := by decide +kernel
theorem k185_70 : am_cd am_x 185 70 = some (.istore 4, 2, 0, 0, .null) := by decide +kernel
theorem k185_72 : am_cd am_x 185 72 = some (.iconst 1, 1, 0, 0, .null) := by decide +kernel
theorem k185_73 : am_cd am_x 185 73 = some (.iload 4, 2, 0, 0, .null) := by decide +kernel
theorem k185_75 : am_cd am_x 185 75 = some (.ishl, 1, 0, 0, .null) := by decide +kernel
theorem k185_76 : am_cd am_x 185 76 = some (.iload_n 3, 1, 0, 0, .null) := by decide +kernel
theorem k185_77 : am_cd am_x 185 77 = some (.if_icmp .ge 9, 3, 86, 0, .null) := by decide +kernel
theorem k185_80 : am_cd am_x 185 80 = some (.iinc 4 1, 3, 0, 0, .null) := by decide +kernel
theorem k185_83 : am_cd am_x 185 83 = some (.goto (-11), 3, 72, 0, .null) := by decide +kernel
theorem k185_86 : am_cd am_x 185 86 = some (.iload 4, 2, 0, 0, .null) := by decide +kernel
theorem k185_88 : am_cd am_x 185 88 = some (.ireturn, 1, 0, 0, .null) := by decide +kernel
theorem k186_0 : am_cd am_x 186 0 = some (.iconst 1, 1, 0, 0, .null) := by decide +kernel
theorem k186_1 : am_cd am_x 186 1 = some (.aload_n 0, 1, 0, 0, .null) := by decide +kernel
theorem k186_2 : am_cd am_x 186 2 = some (.getfield 7, 3, 8, 0, .null) := by decide +kernel
theorem k186_5 : am_cd am_x 186 5 = some (.iconst 2, 1, 0, 0, .null) := by decide +kernel
theorem k186_6 : am_cd am_x 186 6 = some (.iaload, 1, 0, 0, .null) := by decide +kernel
theorem k186_7 : am_cd am_x 186 7 = some (.ishl, 1, 0, 0, .null) := by decide +kernel
theorem k186_8 : am_cd am_x 186 8 = some (.iconst 1, 1, 0, 0, .null) := by decide +kernel
theorem k186_9 : am_cd am_x 186 9 = some (.isub, 1, 0, 0, .null) := by decide +kernel
theorem k186_10 : am_cd am_x 186 10 = some (.ireturn, 1, 0, 0, .null) := by decide +kernel
theorem k187_0 : am_cd am_x 187 0 = some (.aload_n 0, 1, 0, 0, .null) := by decide +kernel
theorem k187_1 : am_cd am_x 187 1 = some (.getfield 7, 3, 8, 0, .null) := by decide +kernel
theorem k187_4 : am_cd am_x 187 4 = some (.iconst 2, 1, 0, 0, .null) := by decide +kernel
theorem k187_5 : am_cd am_x 187 5 = some (.iaload, 1, 0, 0, .null) := by decide +kernel
theorem k187_6 : am_cd am_x 187 6 = some (.ifCond .le 22, 3, 28, 0, .null) := by decide +kernel
theorem k187_9 : am_cd am_x 187 9 = some (.iload_n 1, 1, 0, 0, .null) := by decide +kernel
theorem k187_10 : am_cd am_x 187 10 = some (.aload_n 0, 1, 0, 0, .null) := by decide +kernel
theorem k187_11 : am_cd am_x 187 11 = some (.getfield 7, 3, 8, 0, .null) := by decide +kernel
theorem k187_14 : am_cd am_x 187 14 = some (.iconst 2, 1, 0, 0, .null) := by decide +kernel
theorem k187_15 : am_cd am_x 187 15 = some (.iaload, 1, 0, 0, .null) := by decide +kernel
theorem k187_16 : am_cd am_x 187 16 = some (.iconst 1, 1, 0, 0, .null) := by decide +kernel
theorem k187_17 : am_cd am_x 187 17 = some (.isub, 1, 0, 0, .null) := by decide +kernel
theorem k187_18 : am_cd am_x 187 18 = some (.invokestatic 178, 3, 127, 0, .null) := by decide +kernel
theorem k187_21 : am_cd am_x 187 21 = some (.ifCond .eq 7, 3, 28, 0, .null) := by decide +kernel
theorem k187_24 : am_cd am_x 187 24 = some (.iconst 1, 1, 0, 0, .null) := by decide +kernel
theorem k187_25 : am_cd am_x 187 25 = some (.goto 4, 3, 29, 0, .null) := by decide +kernel
theorem k187_28 : am_cd am_x 187 28 = some (.iconst 0, 1, 0, 0, .null) := by decide +kernel
theorem k187_29 : am_cd am_x 187 29 = some (.istore_n 2, 1, 0, 0, .null) := by decide +kernel
theorem k187_30 : am_cd am_x 187 30 = some (.iload_n 1, 1, 0, 0, .null) := by decide +kernel
theorem k187_31 : am_cd am_x 187 31 = some (.iconst 1, 1, 0, 0, .null) := by decide +kernel
theorem k187_32 : am_cd am_x 187 32 = some (.ishl, 1, 0, 0, .null) := by decide +kernel
theorem k187_33 : am_cd am_x 187 33 = some (.iload_n 2, 1, 0, 0, .null) := by decide +kernel
theorem k187_34 : am_cd am_x 187 34 = some (.ifCond .eq 13, 3, 47, 0, .null) := by decide +kernel
theorem k187_37 : am_cd am_x 187 37 = some (.aload_n 0, 1, 0, 0, .null) := by decide +kernel
theorem k187_38 : am_cd am_x 187 38 = some (.getfield 7, 3, 8, 0, .null) := by decide +kernel
theorem k187_41 : am_cd am_x 187 41 = some (.bipush 6, 2, 0, 0, .null) := by decide +kernel
theorem k187_43 : am_cd am_x 187 43 = some (.iaload, 1, 0, 0, .null) := by decide +kernel
theorem k187_44 : am_cd am_x 187 44 = some (.goto 4, 3, 48, 0, .null) := by decide +kernel
theorem k187_47 : am_cd am_x 187 47 = some (.iconst 0, 1, 0, 0, .null) := by decide +kernel
theorem k187_48 : am_cd am_x 187 48 = some (.ixor, 1, 0, 0, .null) := by decide +kernel
theorem k187_49 : am_cd am_x 187 49 = some (.aload_n 0, 1, 0, 0, .null) := by decide +kernel
theorem k187_50 : am_cd am_x 187 50 = some (.invokevirtual 257, 3, 186, 8, .null) := by decide +kernel
theorem k187_53 : am_cd am_x 187 53 = some (.iand, 1, 0, 0, .null) := by decide +kernel
theorem k187_54 : am_cd am_x 187 54 = some (.ireturn, 1, 0, 0, .null) := by decide +kernel
theorem k188_0 : am_cd am_x 188 0 = some (.iconst 0, 1, 0, 0, .null) := by decide +kernel
theorem k188_1 : am_cd am_x 188 1 = some (.istore_n 1, 1, 0, 0, .null) := by decide +kernel
theorem k188_2 : am_cd am_x 188 2 = some (.iconst 0, 1, 0, 0, .null) := by decide +kernel
theorem k188_3 : am_cd am_x 188 3 = some (.istore_n 2, 1, 0, 0, .null) := by decide +kernel
theorem k188_4 : am_cd am_x 188 4 = some (.iload_n 2, 1, 0, 0, .null) := by decide +kernel
theorem k188_5 : am_cd am_x 188 5 = some (.aload_n 0, 1, 0, 0, .null) := by decide +kernel
theorem k188_6 : am_cd am_x 188 6 = some (.getfield 7, 3, 8, 0, .null) := by decide +kernel
theorem k188_9 : am_cd am_x 188 9 = some (.iconst 1, 1, 0, 0, .null) := by decide +kernel
theorem k188_10 : am_cd am_x 188 10 = some (.iaload, 1, 0, 0, .null) := by decide +kernel
theorem k188_11 : am_cd am_x 188 11 = some (.if_icmp .ge 57, 3, 68, 0, .null) := by decide +kernel
theorem k188_14 : am_cd am_x 188 14 = some (.aload_n 0, 1, 0, 0, .null) := by decide +kernel
theorem k188_15 : am_cd am_x 188 15 = some (.iload_n 1, 1, 0, 0, .null) := by decide +kernel
theorem k188_16 : am_cd am_x 188 16 = some (.invokevirtual 260, 3, 187, 8, .null) := by decide +kernel
theorem k188_19 : am_cd am_x 188 19 = some (.istore_n 1, 1, 0, 0, .null) := by decide +kernel
theorem k188_20 : am_cd am_x 188 20 = some (.iconst 0, 1, 0, 0, .null) := by decide +kernel
theorem k188_21 : am_cd am_x 188 21 = some (.istore_n 3, 1, 0, 0, .null) := by decide +kernel
theorem k188_22 : am_cd am_x 188 22 = some (.iload_n 3, 1, 0, 0, .null) := by decide +kernel
theorem k188_23 : am_cd am_x 188 23 = some (.aload_n 0, 1, 0, 0, .null) := by decide +kernel
theorem k188_24 : am_cd am_x 188 24 = some (.getfield 7, 3, 8, 0, .null) := by decide +kernel
theorem k188_27 : am_cd am_x 188 27 = some (.iconst 2, 1, 0, 0, .null) := by decide +kernel
theorem k188_28 : am_cd am_x 188 28 = some (.iaload, 1, 0, 0, .null) := by decide +kernel
theorem k188_29 : am_cd am_x 188 29 = some (.if_icmp .ge 33, 3, 62, 0, .null) := by decide +kernel
theorem k188_32 : am_cd am_x 188 32 = some (.aload_n 0, 1, 0, 0, .null) := by decide +kernel
theorem k188_33 : am_cd am_x 188 33 = some (.iload_n 2, 1, 0, 0, .null) := by decide +kernel
theorem k188_34 : am_cd am_x 188 34 = some (.iload_n 3, 1, 0, 0, .null) := by decide +kernel
theorem k188_35 : am_cd am_x 188 35 = some (.invokevirtual 185, 3, 155, 8, .null) := by decide +kernel
theorem k188_38 : am_cd am_x 188 38 = some (.istore 4, 2, 0, 0, .null) := by decide +kernel
theorem k188_40 : am_cd am_x 188 40 = some (.iload 4, 2, 0, 0, .null) := by decide +kernel
theorem k188_42 : am_cd am_x 188 42 = some (.iconst 2, 1, 0, 0, .null) := by decide +kernel
theorem k188_43 : am_cd am_x 188 43 = some (.if_icmp .ne 6, 3, 49, 0, .null) := by decide +kernel
theorem k188_46 : am_cd am_x 188 46 = some (.bipush (-4), 2, 0, 0, .null) := by decide +kernel
theorem k188_48 : am_cd am_x 188 48 = some (.ireturn, 1, 0, 0, .null) := by decide +kernel
theorem k188_49 : am_cd am_x 188 49 = some (.iload_n 1, 1, 0, 0, .null) := by decide +kernel
theorem k188_50 : am_cd am_x 188 50 = some (.iload 4, 2, 0, 0, .null) := by decide +kernel
theorem k188_52 : am_cd am_x 188 52 = some (.iload_n 3, 1, 0, 0, .null) := by decide +kernel
theorem k188_53 : am_cd am_x 188 53 = some (.ishl, 1, 0, 0, .null) := by decide +kernel
theorem k188_54 : am_cd am_x 188 54 = some (.ixor, 1, 0, 0, .null) := by decide +kernel
theorem k188_55 : am_cd am_x 188 55 = some (.istore_n 1, 1, 0, 0, .null) := by decide +kernel
theorem k188_56 : am_cd am_x 188 56 = some (.iinc 3 1, 3, 0, 0, .null) := by decide +kernel
theorem k188_59 : am_cd am_x 188 59 = some (.goto (-37), 3, 22, 0, .null) := by decide +kernel
theorem k188_62 : am_cd am_x 188 62 = some (.iinc 2 1, 3, 0, 0, .null) := by decide +kernel
theorem k188_65 : am_cd am_x 188 65 = some (.goto (-61), 3, 4, 0, .null) := by decide +kernel
theorem k188_68 : am_cd am_x 188 68 = some (.iload_n 1, 1, 0, 0, .null) := by decide +kernel
theorem k188_69 : am_cd am_x 188 69 = some (.ireturn, 1, 0, 0, .null) := by decide +kernel
theorem k189_0 : am_cd am_x 189 0 = some (.aload_n 0, 1, 0, 0, .null) := by decide +kernel
theorem k189_1 : am_cd am_x 189 1 = some (.iconst 0, 1, 0, 0, .null) := by decide +kernel
theorem k189_2 : am_cd am_x 189 2 = some (.putfield 263, 3, 8, 22, .int 0) := by decide +kernel
theorem k189_5 : am_cd am_x 189 5 = some (.iconst 0, 1, 0, 0, .null) := by decide +kernel
theorem k189_6 : am_cd am_x 189 6 = some (.istore_n 1, 1, 0, 0, .null) := by decide +kernel
theorem k189_7 : am_cd am_x 189 7 = some (.iload_n 1, 1, 0, 0, .null) := by decide +kernel
theorem k189_8 : am_cd am_x 189 8 = some (.aload_n 0, 1, 0, 0, .null) := by decide +kernel
theorem k189_9 : am_cd am_x 189 9 = some (.getfield 7, 3, 8, 0, .null) := by decide +kernel
theorem k189_12 : am_cd am_x 189 12 = some (.iconst 0, 1, 0, 0, .null) := by decide +kernel
theorem k189_13 : am_cd am_x 189 13 = some (.iaload, 1, 0, 0, .null) := by decide +kernel
theorem k189_14 : am_cd am_x 189 14 = some (.if_icmp .ge 104, 3, 118, 0, .null) := by decide +kernel
theorem k189_17 : am_cd am_x 189 17 = some (.iconst 0, 1, 0, 0, .null) := by decide +kernel
theorem k189_18 : am_cd am_x 189 18 = some (.istore_n 2, 1, 0, 0, .null) := by decide +kernel
theorem k189_19 : am_cd am_x 189 19 = some (.iload_n 2, 1, 0, 0, .null) := by decide +kernel
theorem k189_20 : am_cd am_x 189 20 = some (.aload_n 0, 1, 0, 0, .null) := by decide +kernel
theorem k189_21 : am_cd am_x 189 21 = some (.getfield 7, 3, 8, 0, .null) := by decide +kernel
theorem k189_24 : am_cd am_x 189 24 = some (.iconst 1, 1, 0, 0, .null) := by decide +kernel
theorem k189_25 : am_cd am_x 189 25 = some (.iaload, 1, 0, 0, .null) := by decide +kernel
theorem k189_26 : am_cd am_x 189 26 = some (.if_icmp .ge 86, 3, 112, 0, .null) := by decide +kernel
theorem k189_29 : am_cd am_x 189 29 = some (.aload_n 0, 1, 0, 0, .null) := by decide +kernel
theorem k189_30 : am_cd am_x 189 30 = some (.getfield 7, 3, 8, 0, .null) := by decide +kernel
theorem k189_33 : am_cd am_x 189 33 = some (.iconst 3, 1, 0, 0, .null) := by decide +kernel
theorem k189_34 : am_cd am_x 189 34 = some (.iaload, 1, 0, 0, .null) := by decide +kernel
theorem k189_35 : am_cd am_x 189 35 = some (.iload_n 1, 1, 0, 0, .null) := by decide +kernel
theorem k189_36 : am_cd am_x 189 36 = some (.invokestatic 178, 3, 127, 0, .null) := by decide +kernel
theorem k189_39 : am_cd am_x 189 39 = some (.ifCond .ne 73, 3, 112, 0, .null) := by decide +kernel
theorem k189_42 : am_cd am_x 189 42 = some (.aload_n 0, 1, 0, 0, .null) := by decide +kernel
theorem k189_43 : am_cd am_x 189 43 = some (.getfield 7, 3, 8, 0, .null) := by decide +kernel
theorem k189_46 : am_cd am_x 189 46 = some (.sipush 135, 3, 0, 0, .null) := by decide +kernel
theorem k189_49 : am_cd am_x 189 49 = some (.iload_n 1, 1, 0, 0, .null) := by decide +kernel
theorem k189_50 : am_cd am_x 189 50 = some (.iadd, 1, 0, 0, .null) := by decide +kernel
theorem k189_51 : am_cd am_x 189 51 = some (.iaload, 1, 0, 0, .null) := by decide +kernel
theorem k189_52 : am_cd am_x 189 52 = some (.aload_n 0, 1, 0, 0, .null) := by decide +kernel
theorem k189_53 : am_cd am_x 189 53 = some (.invokevirtual 257, 3, 186, 8, .null) := by decide +kernel
theorem k189_56 : am_cd am_x 189 56 = some (.iand, 1, 0, 0, .null) := by decide +kernel
theorem k189_57 : am_cd am_x 189 57 = some (.istore_n 3, 1, 0, 0, .null) := by decide +kernel
theorem k189_58 : am_cd am_x 189 58 = some (.iload_n 2, 1, 0, 0, .null) := by decide +kernel
theorem k189_59 : am_cd am_x 189 59 = some (.iconst 1, 1, 0, 0, .null) := by decide +kernel
theorem k189_60 : am_cd am_x 189 60 = some (.iadd, 1, 0, 0, .null) := by decide +kernel
theorem k189_61 : am_cd am_x 189 61 = some (.istore 4, 2, 0, 0, .null) := by decide +kernel
theorem k189_63 : am_cd am_x 189 63 = some (.iload 4, 2, 0, 0, .null) := by decide +kernel
theorem k189_65 : am_cd am_x 189 65 = some (.aload_n 0, 1, 0, 0, .null) := by decide +kernel
theorem k189_66 : am_cd am_x 189 66 = some (.getfield 7, 3, 8, 0, .null) := by decide +kernel
theorem k189_69 : am_cd am_x 189 69 = some (.iconst 1, 1, 0, 0, .null) := by decide +kernel
theorem k189_70 : am_cd am_x 189 70 = some (.iaload, 1, 0, 0, .null) := by decide +kernel
theorem k189_71 : am_cd am_x 189 71 = some (.if_icmp .ge 15, 3, 86, 0, .null) := by decide +kernel
theorem k189_74 : am_cd am_x 189 74 = some (.aload_n 0, 1, 0, 0, .null) := by decide +kernel
theorem k189_75 : am_cd am_x 189 75 = some (.iload_n 3, 1, 0, 0, .null) := by decide +kernel
theorem k189_76 : am_cd am_x 189 76 = some (.invokevirtual 260, 3, 187, 8, .null) := by decide +kernel
theorem k189_79 : am_cd am_x 189 79 = some (.istore_n 3, 1, 0, 0, .null) := by decide +kernel
theorem k189_80 : am_cd am_x 189 80 = some (.iinc 4 1, 3, 0, 0, .null) := by decide +kernel
theorem k189_83 : am_cd am_x 189 83 = some (.goto (-20), 3, 63, 0, .null) := by decide +kernel
theorem k189_86 : am_cd am_x 189 86 = some (.aload_n 0, 1, 0, 0, .null) := by decide +kernel
theorem k189_87 : am_cd am_x 189 87 = some (.getfield 26, 3, 8, 21, .null) := by decide +kernel
theorem k189_90 : am_cd am_x 189 90 = some (.aload_n 0, 1, 0, 0, .null) := by decide +kernel
theorem k189_91 : am_cd am_x 189 91 = some (.getfield 263, 3, 8, 22, .null) := by decide +kernel
theorem k189_94 : am_cd am_x 189 94 = some (.iload_n 3, 1, 0, 0, .null) := by decide +kernel
theorem k189_95 : am_cd am_x 189 95 = some (.iastore, 1, 0, 0, .null) := by decide +kernel
theorem k189_96 : am_cd am_x 189 96 = some (.aload_n 0, 1, 0, 0, .null) := by decide +kernel
theorem k189_97 : am_cd am_x 189 97 = some (.dup, 1, 0, 0, .null) := by decide +kernel
theorem k189_98 : am_cd am_x 189 98 = some (.getfield 263, 3, 8, 22, .null) := by decide +kernel
theorem k189_101 : am_cd am_x 189 101 = some (.iconst 1, 1, 0, 0, .null) := by decide +kernel
theorem k189_102 : am_cd am_x 189 102 = some (.iadd, 1, 0, 0, .null) := by decide +kernel
theorem k189_103 : am_cd am_x 189 103 = some (.putfield 263, 3, 8, 22, .int 0) := by decide +kernel
theorem k189_106 : am_cd am_x 189 106 = some (.iinc 2 1, 3, 0, 0, .null) := by decide +kernel
theorem k189_109 : am_cd am_x 189 109 = some (.goto (-90), 3, 19, 0, .null) := by decide +kernel
theorem k189_112 : am_cd am_x 189 112 = some (.iinc 1 1, 3, 0, 0, .null) := by decide +kernel
theorem k189_115 : am_cd am_x 189 115 = some (.goto (-108), 3, 7, 0, .null) := by decide +kernel
theorem k189_118 : am_cd am_x 189 118 = some (.return_, 1, 0, 0, .null) := by decide +kernel
theorem k190_0 : am_cd am_x 190 0 = some (.iconst 0, 1, 0, 0, .null) := by decide +kernel
theorem k190_1 : am_cd am_x 190 1 = some (.istore_n 1, 1, 0, 0, .null) := by decide +kernel
theorem k190_2 : am_cd am_x 190 2 = some (.iconst 0, 1, 0, 0, .null) := by decide +kernel
theorem k190_3 : am_cd am_x 190 3 = some (.istore_n 2, 1, 0, 0, .null) := by decide +kernel
theorem k190_4 : am_cd am_x 190 4 = some (.iload_n 2, 1, 0, 0, .null) := by decide +kernel
theorem k190_5 : am_cd am_x 190 5 = some (.bipush 8, 2, 0, 0, .null) := by decide +kernel
theorem k190_7 : am_cd am_x 190 7 = some (.if_icmp .ge 16, 3, 23, 0, .null) := by decide +kernel
theorem k190_10 : am_cd am_x 190 10 = some (.aload_n 0, 1, 0, 0, .null) := by decide +kernel
theorem k190_11 : am_cd am_x 190 11 = some (.getfield 29, 3, 8, 23, .null) := by decide +kernel
theorem k190_14 : am_cd am_x 190 14 = some (.iload_n 2, 1, 0, 0, .null) := by decide +kernel
theorem k190_15 : am_cd am_x 190 15 = some (.iconst 0, 1, 0, 0, .null) := by decide +kernel
theorem k190_16 : am_cd am_x 190 16 = some (.iastore, 1, 0, 0, .null) := by decide +kernel
theorem k190_17 : am_cd am_x 190 17 = some (.iinc 2 1, 3, 0, 0, .null) := by decide +kernel
theorem k190_20 : am_cd am_x 190 20 = some (.goto (-16), 3, 4, 0, .null) := by decide +kernel
theorem k190_23 : am_cd am_x 190 23 = some (.iconst 0, 1, 0, 0, .null) := by decide +kernel
theorem k190_24 : am_cd am_x 190 24 = some (.istore_n 2, 1, 0, 0, .null) := by decide +kernel
theorem k190_25 : am_cd am_x 190 25 = some (.iload_n 2, 1, 0, 0, .null) := by decide +kernel
theorem k190_26 : am_cd am_x 190 26 = some (.aload_n 0, 1, 0, 0, .null) := by decide +kernel
theorem k190_27 : am_cd am_x 190 27 = some (.getfield 263, 3, 8, 22, .null) := by decide +kernel
theorem k190_30 : am_cd am_x 190 30 = some (.if_icmp .ge 89, 3, 119, 0, .null) := by decide +kernel
theorem k190_33 : am_cd am_x 190 33 = some (.aload_n 0, 1, 0, 0, .null) := by decide +kernel
theorem k190_34 : am_cd am_x 190 34 = some (.getfield 26, 3, 8, 21, .null) := by decide +kernel
theorem k190_37 : am_cd am_x 190 37 = some (.iload_n 2, 1, 0, 0, .null) := by decide +kernel
theorem k190_38 : am_cd am_x 190 38 = some (.iaload, 1, 0, 0, .null) := by decide +kernel
theorem k190_39 : am_cd am_x 190 39 = some (.istore_n 3, 1, 0, 0, .null) := by decide +kernel
theorem k190_40 : am_cd am_x 190 40 = some (.bipush 7, 2, 0, 0, .null) := by decide +kernel
theorem k190_42 : am_cd am_x 190 42 = some (.istore 4, 2, 0, 0, .null) := by decide +kernel
theorem k190_44 : am_cd am_x 190 44 = some (.iload 4, 2, 0, 0, .null) := by decide +kernel
theorem k190_46 : am_cd am_x 190 46 = some (.ifCond .lt 67, 3, 113, 0, .null) := by decide +kernel
theorem k190_49 : am_cd am_x 190 49 = some (.iload_n 3, 1, 0, 0, .null) := by decide +kernel
theorem k190_50 : am_cd am_x 190 50 = some (.ifCond .eq 63, 3, 113, 0, .null) := by decide +kernel
theorem k190_53 : am_cd am_x 190 53 = some (.iload_n 3, 1, 0, 0, .null) := by decide +kernel
theorem k190_54 : am_cd am_x 190 54 = some (.iload 4, 2, 0, 0, .null) := by decide +kernel
theorem k190_56 : am_cd am_x 190 56 = some (.invokestatic 178, 3, 127, 0, .null) := by decide +kernel
theorem k190_59 : am_cd am_x 190 59 = some (.ifCond .eq 29, 3, 88, 0, .null) := by decide +kernel
theorem k190_62 : am_cd am_x 190 62 = some (.aload_n 0, 1, 0, 0, .null) := by decide +kernel
theorem k190_63 : am_cd am_x 190 63 = some (.getfield 29, 3, 8, 23, .null) := by decide +kernel
theorem k190_66 : am_cd am_x 190 66 = some (.iload 4, 2, 0, 0, .null) := by decide +kernel
theorem k190_68 : am_cd am_x 190 68 = some (.iaload, 1, 0, 0, .null) := by decide +kernel
theorem k190_69 : am_cd am_x 190 69 = some (.ifCond .ne 19, 3, 88, 0, .null) := by decide +kernel
theorem k190_72 : am_cd am_x 190 72 = some (.aload_n 0, 1, 0, 0, .null) := by decide +kernel
theorem k190_73 : am_cd am_x 190 73 = some (.getfield 29, 3, 8, 23, .null) := by decide +kernel
theorem k190_76 : am_cd am_x 190 76 = some (.iload 4, 2, 0, 0, .null) := by decide +kernel
theorem k190_78 : am_cd am_x 190 78 = some (.iload_n 3, 1, 0, 0, .null) := by decide +kernel
theorem k190_79 : am_cd am_x 190 79 = some (.iastore, 1, 0, 0, .null) := by decide +kernel
theorem k190_80 : am_cd am_x 190 80 = some (.iconst 0, 1, 0, 0, .null) := by decide +kernel
theorem k190_81 : am_cd am_x 190 81 = some (.istore_n 3, 1, 0, 0, .null) := by decide +kernel
theorem k190_82 : am_cd am_x 190 82 = some (.iinc 1 1, 3, 0, 0, .null) := by decide +kernel
theorem k190_85 : am_cd am_x 190 85 = some (.goto 22, 3, 107, 0, .null) := by decide +kernel
theorem k190_88 : am_cd am_x 190 88 = some (.iload_n 3, 1, 0, 0, .null) := by decide +kernel
theorem k190_89 : am_cd am_x 190 89 = some (.iload 4, 2, 0, 0, .null) := by decide +kernel
theorem k190_91 : am_cd am_x 190 91 = some (.invokestatic 178, 3, 127, 0, .null) := by decide +kernel
theorem k190_94 : am_cd am_x 190 94 = some (.ifCond .eq 13, 3, 107, 0, .null) := by decide +kernel
theorem k190_97 : am_cd am_x 190 97 = some (.iload_n 3, 1, 0, 0, .null) := by decide +kernel
theorem k190_98 : am_cd am_x 190 98 = some (.aload_n 0, 1, 0, 0, .null) := by decide +kernel
theorem k190_99 : am_cd am_x 190 99 = some (.getfield 29, 3, 8, 23, .null) := by decide +kernel
theorem k190_102 : am_cd am_x 190 102 = some (.iload 4, 2, 0, 0, .null) := by decide +kernel
theorem k190_104 : am_cd am_x 190 104 = some (.iaload, 1, 0, 0, .null) := by decide +kernel
theorem k190_105 : am_cd am_x 190 105 = some (.ixor, 1, 0, 0, .null) := by decide +kernel
theorem k190_106 : am_cd am_x 190 106 = some (.istore_n 3, 1, 0, 0, .null) := by decide +kernel
theorem k190_107 : am_cd am_x 190 107 = some (.iinc 4 (-1), 3, 0, 0, .null) := by decide +kernel
theorem k190_110 : am_cd am_x 190 110 = some (.goto (-66), 3, 44, 0, .null) := by decide +kernel
theorem k190_113 : am_cd am_x 190 113 = some (.iinc 2 1, 3, 0, 0, .null) := by decide +kernel
theorem k190_116 : am_cd am_x 190 116 = some (.goto (-91), 3, 25, 0, .null) := by decide +kernel
theorem k190_119 : am_cd am_x 190 119 = some (.iload_n 1, 1, 0, 0, .null) := by decide +kernel
theorem k190_120 : am_cd am_x 190 120 = some (.ireturn, 1, 0, 0, .null) := by decide +kernel
theorem k191_0 : am_cd am_x 191 0 = some (.iload_n 1, 1, 0, 0, .null) := by decide +kernel
theorem k191_1 : am_cd am_x 191 1 = some (.i2l, 1, 0, 0, .null) := by decide +kernel
theorem k191_2 : am_cd am_x 191 2 = some (.lconst 0, 1, 0, 0, .null) := by decide +kernel
theorem k191_3 : am_cd am_x 191 3 = some (.ldc2_w 200, 3, 0, 0, .long 2) := by decide +kernel
theorem k191_6 : am_cd am_x 191 6 = some (.invokestatic 60, 3, 125, 0, .null) := by decide +kernel
theorem k191_9 : am_cd am_x 191 9 = some (.ifCond .ne 5, 3, 14, 0, .null) := by decide +kernel
theorem k191_12 : am_cd am_x 191 12 = some (.iconst (-1), 1, 0, 0, .null) := by decide +kernel
theorem k191_13 : am_cd am_x 191 13 = some (.ireturn, 1, 0, 0, .null) := by decide +kernel
theorem k191_14 : am_cd am_x 191 14 = some (.aload_n 0, 1, 0, 0, .null) := by decide +kernel
theorem k191_15 : am_cd am_x 191 15 = some (.invokevirtual 266, 3, 189, 8, .null) := by decide +kernel
theorem k191_18 : am_cd am_x 191 18 = some (.iconst 0, 1, 0, 0, .null) := by decide +kernel
theorem k191_19 : am_cd am_x 191 19 = some (.istore_n 2, 1, 0, 0, .null) := by decide +kernel
theorem k191_20 : am_cd am_x 191 20 = some (.iconst 0, 1, 0, 0, .null) := by decide +kernel
theorem k191_21 : am_cd am_x 191 21 = some (.istore_n 3, 1, 0, 0, .null) := by decide +kernel
theorem k191_22 : am_cd am_x 191 22 = some (.iload_n 3, 1, 0, 0, .null) := by decide +kernel
theorem k191_23 : am_cd am_x 191 23 = some (.aload_n 0, 1, 0, 0, .null) := by decide +kernel
theorem k191_24 : am_cd am_x 191 24 = some (.getfield 263, 3, 8, 22, .null) := by decide +kernel
theorem k191_27 : am_cd am_x 191 27 = some (.if_icmp .ge 81, 3, 108, 0, .null) := by decide +kernel
theorem k191_30 : am_cd am_x 191 30 = some (.iload_n 1, 1, 0, 0, .null) := by decide +kernel
theorem k191_31 : am_cd am_x 191 31 = some (.iconst 1, 1, 0, 0, .null) := by decide +kernel
theorem k191_32 : am_cd am_x 191 32 = some (.if_icmp .ne 23, 3, 55, 0, .null) := by decide +kernel
theorem k191_35 : am_cd am_x 191 35 = some (.iload_n 2, 1, 0, 0, .null) := by decide +kernel
theorem k191_36 : am_cd am_x 191 36 = some (.aload_n 0, 1, 0, 0, .null) := by decide +kernel
theorem k191_37 : am_cd am_x 191 37 = some (.getfield 26, 3, 8, 21, .null) := by decide +kernel
theorem k191_40 : am_cd am_x 191 40 = some (.iload_n 3, 1, 0, 0, .null) := by decide +kernel
theorem k191_41 : am_cd am_x 191 41 = some (.iaload, 1, 0, 0, .null) := by decide +kernel
theorem k191_42 : am_cd am_x 191 42 = some (.ifCond .ne 7, 3, 49, 0, .null) := by decide +kernel
theorem k191_45 : am_cd am_x 191 45 = some (.iconst 1, 1, 0, 0, .null) := by decide +kernel
theorem k191_46 : am_cd am_x 191 46 = some (.goto 4, 3, 50, 0, .null) := by decide +kernel
theorem k191_49 : am_cd am_x 191 49 = some (.iconst 0, 1, 0, 0, .null) := by decide +kernel
theorem k191_50 : am_cd am_x 191 50 = some (.invokestatic 188, 3, 126, 0, .null) := by decide +kernel
theorem k191_53 : am_cd am_x 191 53 = some (.iadd, 1, 0, 0, .null) := by decide +kernel
theorem k191_54 : am_cd am_x 191 54 = some (.istore_n 2, 1, 0, 0, .null) := by decide +kernel
theorem k191_55 : am_cd am_x 191 55 = some (.iconst 0, 1, 0, 0, .null) := by decide +kernel
theorem k191_56 : am_cd am_x 191 56 = some (.istore 4, 2, 0, 0, .null) := by decide +kernel
theorem k191_58 : am_cd am_x 191 58 = some (.iload 4, 2, 0, 0, .null) := by decide +kernel
theorem k191_60 : am_cd am_x 191 60 = some (.iload_n 3, 1, 0, 0, .null) := by decide +kernel
theorem k191_61 : am_cd am_x 191 61 = some (.if_icmp .ge 41, 3, 102, 0, .null) := by decide +kernel
theorem k191_64 : am_cd am_x 191 64 = some (.iload_n 1, 1, 0, 0, .null) := by decide +kernel
theorem k191_65 : am_cd am_x 191 65 = some (.iconst 2, 1, 0, 0, .null) := by decide +kernel
theorem k191_66 : am_cd am_x 191 66 = some (.if_icmp .ne 36, 3, 102, 0, .null) := by decide +kernel
theorem k191_69 : am_cd am_x 191 69 = some (.iload_n 2, 1, 0, 0, .null) := by decide +kernel
theorem k191_70 : am_cd am_x 191 70 = some (.aload_n 0, 1, 0, 0, .null) := by decide +kernel
theorem k191_71 : am_cd am_x 191 71 = some (.getfield 26, 3, 8, 21, .null) := by decide +kernel
theorem k191_74 : am_cd am_x 191 74 = some (.iload 4, 2, 0, 0, .null) := by decide +kernel
theorem k191_76 : am_cd am_x 191 76 = some (.iaload, 1, 0, 0, .null) := by decide +kernel
theorem k191_77 : am_cd am_x 191 77 = some (.aload_n 0, 1, 0, 0, .null) := by decide +kernel
theorem k191_78 : am_cd am_x 191 78 = some (.getfield 26, 3, 8, 21, .null) := by decide +kernel
theorem k191_81 : am_cd am_x 191 81 = some (.iload_n 3, 1, 0, 0, .null) := by decide +kernel
theorem k191_82 : am_cd am_x 191 82 = some (.iaload, 1, 0, 0, .null) := by decide +kernel
theorem k191_83 : am_cd am_x 191 83 = some (.if_icmp .ne 7, 3, 90, 0, .null) := by decide +kernel
theorem k191_86 : am_cd am_x 191 86 = some (.iconst 1, 1, 0, 0, .null) := by decide +kernel
theorem k191_87 : am_cd am_x 191 87 = some (.goto 4, 3, 91, 0, .null) := by decide +kernel
theorem k191_90 : am_cd am_x 191 90 = some (.iconst 0, 1, 0, 0, .null) := by decide +kernel
theorem k191_91 : am_cd am_x 191 91 = some (.invokestatic 188, 3, 126, 0, .null) := by decide +kernel
theorem k191_94 : am_cd am_x 191 94 = some (.iadd, 1, 0, 0, .null) := by decide +kernel
theorem k191_95 : am_cd am_x 191 95 = some (.istore_n 2, 1, 0, 0, .null) := by decide +kernel
theorem k191_96 : am_cd am_x 191 96 = some (.iinc 4 1, 3, 0, 0, .null) := by decide +kernel
theorem k191_99 : am_cd am_x 191 99 = some (.goto (-41), 3, 58, 0, .null) := by decide +kernel
theorem k191_102 : am_cd am_x 191 102 = some (.iinc 3 1, 3, 0, 0, .null) := by decide +kernel
theorem k191_105 : am_cd am_x 191 105 = some (.goto (-83), 3, 22, 0, .null) := by decide +kernel
theorem k191_108 : am_cd am_x 191 108 = some (.iload_n 1, 1, 0, 0, .null) := by decide +kernel
theorem k191_109 : am_cd am_x 191 109 = some (.ifCond .ne 15, 3, 124, 0, .null) := by decide +kernel
theorem k191_112 : am_cd am_x 191 112 = some (.aload_n 0, 1, 0, 0, .null) := by decide +kernel
theorem k191_113 : am_cd am_x 191 113 = some (.getfield 263, 3, 8, 22, .null) := by decide +kernel
theorem k191_116 : am_cd am_x 191 116 = some (.aload_n 0, 1, 0, 0, .null) := by decide +kernel
theorem k191_117 : am_cd am_x 191 117 = some (.invokevirtual 269, 3, 190, 8, .null) := by decide +kernel
theorem k191_120 : am_cd am_x 191 120 = some (.isub, 1, 0, 0, .null) := by decide +kernel
theorem k191_121 : am_cd am_x 191 121 = some (.goto 4, 3, 125, 0, .null) := by decide +kernel
theorem k191_124 : am_cd am_x 191 124 = some (.iload_n 2, 1, 0, 0, .null) := by decide +kernel
theorem k191_125 : am_cd am_x 191 125 = some (.ireturn, 1, 0, 0, .null) := by decide +kernel
