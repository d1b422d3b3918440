/-! FACTS: instructions by their places, on -/
theorem k192_0 : am_cd am_x 192 0 = some (.aload_n 0, 1, 0, 0, .null) := by decide +kernel
theorem k192_1 : am_cd am_x 192 1 = some (.iload_n 1, 1, 0, 0, .null) := by decide +kernel
theorem k192_2 : am_cd am_x 192 2 = some (.invokevirtual 174, 3, 151, 8, .null) := by decide +kernel
theorem k192_5 : am_cd am_x 192 5 = some (.ifCond .eq 16, 3, 21, 0, .null) := by decide +kernel
theorem k192_8 : am_cd am_x 192 8 = some (.aload_n 0, 1, 0, 0, .null) := by decide +kernel
theorem k192_9 : am_cd am_x 192 9 = some (.getfield 7, 3, 8, 0, .null) := by decide +kernel
theorem k192_12 : am_cd am_x 192 12 = some (.sipush 143, 3, 0, 0, .null) := by decide +kernel
theorem k192_15 : am_cd am_x 192 15 = some (.iload_n 1, 1, 0, 0, .null) := by decide +kernel
theorem k192_16 : am_cd am_x 192 16 = some (.iadd, 1, 0, 0, .null) := by decide +kernel
theorem k192_17 : am_cd am_x 192 17 = some (.iaload, 1, 0, 0, .null) := by decide +kernel
theorem k192_18 : am_cd am_x 192 18 = some (.goto 4, 3, 22, 0, .null) := by decide +kernel
theorem k192_21 : am_cd am_x 192 21 = some (.iconst (-1), 1, 0, 0, .null) := by decide +kernel
theorem k192_22 : am_cd am_x 192 22 = some (.ireturn, 1, 0, 0, .null) := by decide +kernel
theorem k193_0 : am_cd am_x 193 0 = some (.iconst 1, 1, 0, 0, .null) := by decide +kernel
theorem k193_1 : am_cd am_x 193 1 = some (.istore 5, 2, 0, 0, .null) := by decide +kernel
theorem k193_3 : am_cd am_x 193 3 = some (.iconst 0, 1, 0, 0, .null) := by decide +kernel
theorem k193_4 : am_cd am_x 193 4 = some (.istore 6, 2, 0, 0, .null) := by decide +kernel
theorem k193_6 : am_cd am_x 193 6 = some (.iload 6, 2, 0, 0, .null) := by decide +kernel
theorem k193_8 : am_cd am_x 193 8 = some (.aload_n 0, 1, 0, 0, .null) := by decide +kernel
theorem k193_9 : am_cd am_x 193 9 = some (.getfield 7, 3, 8, 0, .null) := by decide +kernel
theorem k193_12 : am_cd am_x 193 12 = some (.iconst 1, 1, 0, 0, .null) := by decide +kernel
theorem k193_13 : am_cd am_x 193 13 = some (.iaload, 1, 0, 0, .null) := by decide +kernel
theorem k193_14 : am_cd am_x 193 14 = some (.if_icmp .ge 68, 3, 82, 0, .null) := by decide +kernel
theorem k193_17 : am_cd am_x 193 17 = some (.iload 4, 2, 0, 0, .null) := by decide +kernel
theorem k193_19 : am_cd am_x 193 19 = some (.iload 6, 2, 0, 0, .null) := by decide +kernel
theorem k193_21 : am_cd am_x 193 21 = some (.ishr, 1, 0, 0, .null) := by decide +kernel
theorem k193_22 : am_cd am_x 193 22 = some (.iconst 1, 1, 0, 0, .null) := by decide +kernel
theorem k193_23 : am_cd am_x 193 23 = some (.iand, 1, 0, 0, .null) := by decide +kernel
theorem k193_24 : am_cd am_x 193 24 = some (.istore 7, 2, 0, 0, .null) := by decide +kernel
theorem k193_26 : am_cd am_x 193 26 = some (.iload 5, 2, 0, 0, .null) := by decide +kernel
theorem k193_28 : am_cd am_x 193 28 = some (.ifCond .eq 45, 3, 73, 0, .null) := by decide +kernel
theorem k193_31 : am_cd am_x 193 31 = some (.iload 6, 2, 0, 0, .null) := by decide +kernel
theorem k193_33 : am_cd am_x 193 33 = some (.iload_n 2, 1, 0, 0, .null) := by decide +kernel
theorem k193_34 : am_cd am_x 193 34 = some (.if_icmp .ge 29, 3, 63, 0, .null) := by decide +kernel
theorem k193_37 : am_cd am_x 193 37 = some (.aload_n 0, 1, 0, 0, .null) := by decide +kernel
theorem k193_38 : am_cd am_x 193 38 = some (.iload_n 1, 1, 0, 0, .null) := by decide +kernel
theorem k193_39 : am_cd am_x 193 39 = some (.iload 6, 2, 0, 0, .null) := by decide +kernel
theorem k193_41 : am_cd am_x 193 41 = some (.invokevirtual 182, 3, 154, 8, .null) := by decide +kernel
theorem k193_44 : am_cd am_x 193 44 = some (.iconst 2, 1, 0, 0, .null) := by decide +kernel
theorem k193_45 : am_cd am_x 193 45 = some (.if_icmp .eq 24, 3, 69, 0, .null) := by decide +kernel
theorem k193_48 : am_cd am_x 193 48 = some (.aload_n 0, 1, 0, 0, .null) := by decide +kernel
theorem k193_49 : am_cd am_x 193 49 = some (.iload_n 1, 1, 0, 0, .null) := by decide +kernel
theorem k193_50 : am_cd am_x 193 50 = some (.iload 6, 2, 0, 0, .null) := by decide +kernel
theorem k193_52 : am_cd am_x 193 52 = some (.invokevirtual 182, 3, 154, 8, .null) := by decide +kernel
theorem k193_55 : am_cd am_x 193 55 = some (.iload 7, 2, 0, 0, .null) := by decide +kernel
theorem k193_57 : am_cd am_x 193 57 = some (.if_icmp .ne 16, 3, 73, 0, .null) := by decide +kernel
theorem k193_60 : am_cd am_x 193 60 = some (.goto 9, 3, 69, 0, .null) := by decide +kernel
theorem k193_63 : am_cd am_x 193 63 = some (.iload_n 3, 1, 0, 0, .null) := by decide +kernel
theorem k193_64 : am_cd am_x 193 64 = some (.iload 7, 2, 0, 0, .null) := by decide +kernel
theorem k193_66 : am_cd am_x 193 66 = some (.if_icmp .ne 7, 3, 73, 0, .null) := by decide +kernel
theorem k193_69 : am_cd am_x 193 69 = some (.iconst 1, 1, 0, 0, .null) := by decide +kernel
theorem k193_70 : am_cd am_x 193 70 = some (.goto 4, 3, 74, 0, .null) := by decide +kernel
theorem k193_73 : am_cd am_x 193 73 = some (.iconst 0, 1, 0, 0, .null) := by decide +kernel
theorem k193_74 : am_cd am_x 193 74 = some (.istore 5, 2, 0, 0, .null) := by decide +kernel
theorem k193_76 : am_cd am_x 193 76 = some (.iinc 6 1, 3, 0, 0, .null) := by decide +kernel
theorem k193_79 : am_cd am_x 193 79 = some (.goto (-73), 3, 6, 0, .null) := by decide +kernel
theorem k193_82 : am_cd am_x 193 82 = some (.iload 5, 2, 0, 0, .null) := by decide +kernel
theorem k193_84 : am_cd am_x 193 84 = some (.ireturn, 1, 0, 0, .null) := by decide +kernel
theorem k194_0 : am_cd am_x 194 0 = some (.aload_n 0, 1, 0, 0, .null) := by decide +kernel
theorem k194_1 : am_cd am_x 194 1 = some (.iload_n 1, 1, 0, 0, .null) := by decide +kernel
theorem k194_2 : am_cd am_x 194 2 = some (.invokevirtual 174, 3, 151, 8, .null) := by decide +kernel
theorem k194_5 : am_cd am_x 194 5 = some (.ifCond .eq 23, 3, 28, 0, .null) := by decide +kernel
theorem k194_8 : am_cd am_x 194 8 = some (.iload_n 2, 1, 0, 0, .null) := by decide +kernel
theorem k194_9 : am_cd am_x 194 9 = some (.i2l, 1, 0, 0, .null) := by decide +kernel
theorem k194_10 : am_cd am_x 194 10 = some (.lconst 0, 1, 0, 0, .null) := by decide +kernel
theorem k194_11 : am_cd am_x 194 11 = some (.iconst 1, 1, 0, 0, .null) := by decide +kernel
theorem k194_12 : am_cd am_x 194 12 = some (.aload_n 0, 1, 0, 0, .null) := by decide +kernel
theorem k194_13 : am_cd am_x 194 13 = some (.getfield 7, 3, 8, 0, .null) := by decide +kernel
theorem k194_16 : am_cd am_x 194 16 = some (.iconst 1, 1, 0, 0, .null) := by decide +kernel
theorem k194_17 : am_cd am_x 194 17 = some (.iaload, 1, 0, 0, .null) := by decide +kernel
theorem k194_18 : am_cd am_x 194 18 = some (.ishl, 1, 0, 0, .null) := by decide +kernel
theorem k194_19 : am_cd am_x 194 19 = some (.iconst 1, 1, 0, 0, .null) := by decide +kernel
theorem k194_20 : am_cd am_x 194 20 = some (.isub, 1, 0, 0, .null) := by decide +kernel
theorem k194_21 : am_cd am_x 194 21 = some (.i2l, 1, 0, 0, .null) := by decide +kernel
theorem k194_22 : am_cd am_x 194 22 = some (.invokestatic 60, 3, 125, 0, .null) := by decide +kernel
theorem k194_25 : am_cd am_x 194 25 = some (.ifCond .ne 5, 3, 30, 0, .null) := by decide +kernel
theorem k194_28 : am_cd am_x 194 28 = some (.iconst (-1), 1, 0, 0, .null) := by decide +kernel
theorem k194_29 : am_cd am_x 194 29 = some (.ireturn, 1, 0, 0, .null) := by decide +kernel
theorem k194_30 : am_cd am_x 194 30 = some (.iconst 0, 1, 0, 0, .null) := by decide +kernel
theorem k194_31 : am_cd am_x 194 31 = some (.istore_n 3, 1, 0, 0, .null) := by decide +kernel
theorem k194_32 : am_cd am_x 194 32 = some (.iconst 0, 1, 0, 0, .null) := by decide +kernel
theorem k194_33 : am_cd am_x 194 33 = some (.istore 4, 2, 0, 0, .null) := by decide +kernel
theorem k194_35 : am_cd am_x 194 35 = some (.iload 4, 2, 0, 0, .null) := by decide +kernel
theorem k194_37 : am_cd am_x 194 37 = some (.iconst 2, 1, 0, 0, .null) := by decide +kernel
theorem k194_38 : am_cd am_x 194 38 = some (.aload_n 0, 1, 0, 0, .null) := by decide +kernel
theorem k194_39 : am_cd am_x 194 39 = some (.getfield 7, 3, 8, 0, .null) := by decide +kernel
theorem k194_42 : am_cd am_x 194 42 = some (.iconst 1, 1, 0, 0, .null) := by decide +kernel
theorem k194_43 : am_cd am_x 194 43 = some (.iaload, 1, 0, 0, .null) := by decide +kernel
theorem k194_44 : am_cd am_x 194 44 = some (.imul, 1, 0, 0, .null) := by decide +kernel
theorem k194_45 : am_cd am_x 194 45 = some (.if_icmp .ge 32, 3, 77, 0, .null) := by decide +kernel
theorem k194_48 : am_cd am_x 194 48 = some (.iload_n 3, 1, 0, 0, .null) := by decide +kernel
theorem k194_49 : am_cd am_x 194 49 = some (.aload_n 0, 1, 0, 0, .null) := by decide +kernel
theorem k194_50 : am_cd am_x 194 50 = some (.iload_n 1, 1, 0, 0, .null) := by decide +kernel
theorem k194_51 : am_cd am_x 194 51 = some (.iload 4, 2, 0, 0, .null) := by decide +kernel
theorem k194_53 : am_cd am_x 194 53 = some (.iconst 2, 1, 0, 0, .null) := by decide +kernel
theorem k194_54 : am_cd am_x 194 54 = some (.idiv, 1, 0, 0, .null) := by decide +kernel
theorem k194_55 : am_cd am_x 194 55 = some (.iload 4, 2, 0, 0, .null) := by decide +kernel
theorem k194_57 : am_cd am_x 194 57 = some (.iconst 2, 1, 0, 0, .null) := by decide +kernel
theorem k194_58 : am_cd am_x 194 58 = some (.irem, 1, 0, 0, .null) := by decide +kernel
theorem k194_59 : am_cd am_x 194 59 = some (.iload_n 2, 1, 0, 0, .null) := by decide +kernel
theorem k194_60 : am_cd am_x 194 60 = some (.invokevirtual 272, 3, 193, 8, .null) := by decide +kernel
theorem k194_63 : am_cd am_x 194 63 = some (.invokestatic 188, 3, 126, 0, .null) := by decide +kernel
theorem k194_66 : am_cd am_x 194 66 = some (.iload 4, 2, 0, 0, .null) := by decide +kernel
theorem k194_68 : am_cd am_x 194 68 = some (.ishl, 1, 0, 0, .null) := by decide +kernel
theorem k194_69 : am_cd am_x 194 69 = some (.ior, 1, 0, 0, .null) := by decide +kernel
theorem k194_70 : am_cd am_x 194 70 = some (.istore_n 3, 1, 0, 0, .null) := by decide +kernel
theorem k194_71 : am_cd am_x 194 71 = some (.iinc 4 1, 3, 0, 0, .null) := by decide +kernel
theorem k194_74 : am_cd am_x 194 74 = some (.goto (-39), 3, 35, 0, .null) := by decide +kernel
theorem k194_77 : am_cd am_x 194 77 = some (.iload_n 3, 1, 0, 0, .null) := by decide +kernel
theorem k194_78 : am_cd am_x 194 78 = some (.aload_n 0, 1, 0, 0, .null) := by decide +kernel
theorem k194_79 : am_cd am_x 194 79 = some (.iload_n 1, 1, 0, 0, .null) := by decide +kernel
theorem k194_80 : am_cd am_x 194 80 = some (.aload_n 0, 1, 0, 0, .null) := by decide +kernel
theorem k194_81 : am_cd am_x 194 81 = some (.getfield 7, 3, 8, 0, .null) := by decide +kernel
theorem k194_84 : am_cd am_x 194 84 = some (.iconst 1, 1, 0, 0, .null) := by decide +kernel
theorem k194_85 : am_cd am_x 194 85 = some (.iaload, 1, 0, 0, .null) := by decide +kernel
theorem k194_86 : am_cd am_x 194 86 = some (.iconst 0, 1, 0, 0, .null) := by decide +kernel
theorem k194_87 : am_cd am_x 194 87 = some (.iload_n 2, 1, 0, 0, .null) := by decide +kernel
theorem k194_88 : am_cd am_x 194 88 = some (.invokevirtual 272, 3, 193, 8, .null) := by decide +kernel
theorem k194_91 : am_cd am_x 194 91 = some (.invokestatic 188, 3, 126, 0, .null) := by decide +kernel
theorem k194_94 : am_cd am_x 194 94 = some (.bipush 16, 2, 0, 0, .null) := by decide +kernel
theorem k194_96 : am_cd am_x 194 96 = some (.ishl, 1, 0, 0, .null) := by decide +kernel
theorem k194_97 : am_cd am_x 194 97 = some (.ior, 1, 0, 0, .null) := by decide +kernel
theorem k194_98 : am_cd am_x 194 98 = some (.istore_n 3, 1, 0, 0, .null) := by decide +kernel
theorem k194_99 : am_cd am_x 194 99 = some (.aload_n 0, 1, 0, 0, .null) := by decide +kernel
theorem k194_100 : am_cd am_x 194 100 = some (.getfield 7, 3, 8, 0, .null) := by decide +kernel
theorem k194_103 : am_cd am_x 194 103 = some (.sipush 143, 3, 0, 0, .null) := by decide +kernel
theorem k194_106 : am_cd am_x 194 106 = some (.iload_n 1, 1, 0, 0, .null) := by decide +kernel
theorem k194_107 : am_cd am_x 194 107 = some (.iadd, 1, 0, 0, .null) := by decide +kernel
theorem k194_108 : am_cd am_x 194 108 = some (.dup2, 1, 0, 0, .null) := by decide +kernel
theorem k194_109 : am_cd am_x 194 109 = some (.iaload, 1, 0, 0, .null) := by decide +kernel
theorem k194_110 : am_cd am_x 194 110 = some (.iload_n 3, 1, 0, 0, .null) := by decide +kernel
theorem k194_111 : am_cd am_x 194 111 = some (.iand, 1, 0, 0, .null) := by decide +kernel
theorem k194_112 : am_cd am_x 194 112 = some (.iastore, 1, 0, 0, .null) := by decide +kernel
theorem k194_113 : am_cd am_x 194 113 = some (.aload_n 0, 1, 0, 0, .null) := by decide +kernel
theorem k194_114 : am_cd am_x 194 114 = some (.getfield 7, 3, 8, 0, .null) := by decide +kernel
theorem k194_117 : am_cd am_x 194 117 = some (.sipush 143, 3, 0, 0, .null) := by decide +kernel
theorem k194_120 : am_cd am_x 194 120 = some (.iload_n 1, 1, 0, 0, .null) := by decide +kernel
theorem k194_121 : am_cd am_x 194 121 = some (.iadd, 1, 0, 0, .null) := by decide +kernel
theorem k194_122 : am_cd am_x 194 122 = some (.iaload, 1, 0, 0, .null) := by decide +kernel
theorem k194_123 : am_cd am_x 194 123 = some (.invokestatic 205, 3, 128, 0, .null) := by decide +kernel
theorem k194_126 : am_cd am_x 194 126 = some (.ireturn, 1, 0, 0, .null) := by decide +kernel
theorem k195_0 : am_cd am_x 195 0 = some (.aload_n 0, 1, 0, 0, .null) := by decide +kernel
theorem k195_1 : am_cd am_x 195 1 = some (.iload_n 1, 1, 0, 0, .null) := by decide +kernel
theorem k195_2 : am_cd am_x 195 2 = some (.invokevirtual 174, 3, 151, 8, .null) := by decide +kernel
theorem k195_5 : am_cd am_x 195 5 = some (.ifCond .eq 27, 3, 32, 0, .null) := by decide +kernel
theorem k195_8 : am_cd am_x 195 8 = some (.aload_n 0, 1, 0, 0, .null) := by decide +kernel
theorem k195_9 : am_cd am_x 195 9 = some (.sipush 143, 3, 0, 0, .null) := by decide +kernel
theorem k195_12 : am_cd am_x 195 12 = some (.iload_n 1, 1, 0, 0, .null) := by decide +kernel
theorem k195_13 : am_cd am_x 195 13 = some (.iadd, 1, 0, 0, .null) := by decide +kernel
theorem k195_14 : am_cd am_x 195 14 = some (.aload_n 0, 1, 0, 0, .null) := by decide +kernel
theorem k195_15 : am_cd am_x 195 15 = some (.getfield 7, 3, 8, 0, .null) := by decide +kernel
theorem k195_18 : am_cd am_x 195 18 = some (.iconst 1, 1, 0, 0, .null) := by decide +kernel
theorem k195_19 : am_cd am_x 195 19 = some (.iaload, 1, 0, 0, .null) := by decide +kernel
theorem k195_20 : am_cd am_x 195 20 = some (.invokestatic 88, 3, 130, 0, .null) := by decide +kernel
theorem k195_23 : am_cd am_x 195 23 = some (.invokevirtual 241, 3, 174, 8, .null) := by decide +kernel
theorem k195_26 : am_cd am_x 195 26 = some (.invokestatic 205, 3, 128, 0, .null) := by decide +kernel
theorem k195_29 : am_cd am_x 195 29 = some (.goto 4, 3, 33, 0, .null) := by decide +kernel
theorem k195_32 : am_cd am_x 195 32 = some (.iconst (-1), 1, 0, 0, .null) := by decide +kernel
theorem k195_33 : am_cd am_x 195 33 = some (.ireturn, 1, 0, 0, .null) := by decide +kernel
theorem k196_0 : am_cd am_x 196 0 = some (.iload_n 1, 1, 0, 0, .null) := by decide +kernel
theorem k196_1 : am_cd am_x 196 1 = some (.i2l, 1, 0, 0, .null) := by decide +kernel
theorem k196_2 : am_cd am_x 196 2 = some (.lconst 0, 1, 0, 0, .null) := by decide +kernel
theorem k196_3 : am_cd am_x 196 3 = some (.lconst 1, 1, 0, 0, .null) := by decide +kernel
theorem k196_4 : am_cd am_x 196 4 = some (.invokestatic 60, 3, 125, 0, .null) := by decide +kernel
theorem k196_7 : am_cd am_x 196 7 = some (.ifCond .ne 5, 3, 12, 0, .null) := by decide +kernel
theorem k196_10 : am_cd am_x 196 10 = some (.iconst (-1), 1, 0, 0, .null) := by decide +kernel
theorem k196_11 : am_cd am_x 196 11 = some (.ireturn, 1, 0, 0, .null) := by decide +kernel
theorem k196_12 : am_cd am_x 196 12 = some (.aload_n 0, 1, 0, 0, .null) := by decide +kernel
theorem k196_13 : am_cd am_x 196 13 = some (.getfield 16, 3, 8, 2, .null) := by decide +kernel
theorem k196_16 : am_cd am_x 196 16 = some (.iload_n 1, 1, 0, 0, .null) := by decide +kernel
theorem k196_17 : am_cd am_x 196 17 = some (.baload, 1, 0, 0, .null) := by decide +kernel
theorem k196_18 : am_cd am_x 196 18 = some (.invokestatic 188, 3, 126, 0, .null) := by decide +kernel
theorem k196_21 : am_cd am_x 196 21 = some (.istore_n 2, 1, 0, 0, .null) := by decide +kernel
theorem k196_22 : am_cd am_x 196 22 = some (.aload_n 0, 1, 0, 0, .null) := by decide +kernel
theorem k196_23 : am_cd am_x 196 23 = some (.getfield 16, 3, 8, 2, .null) := by decide +kernel
theorem k196_26 : am_cd am_x 196 26 = some (.iload_n 1, 1, 0, 0, .null) := by decide +kernel
theorem k196_27 : am_cd am_x 196 27 = some (.iconst 1, 1, 0, 0, .null) := by decide +kernel
theorem k196_28 : am_cd am_x 196 28 = some (.bastore, 1, 0, 0, .null) := by decide +kernel
theorem k196_29 : am_cd am_x 196 29 = some (.iconst 0, 1, 0, 0, .null) := by decide +kernel
theorem k196_30 : am_cd am_x 196 30 = some (.istore_n 3, 1, 0, 0, .null) := by decide +kernel
theorem k196_31 : am_cd am_x 196 31 = some (.iload_n 3, 1, 0, 0, .null) := by decide +kernel
theorem k196_32 : am_cd am_x 196 32 = some (.sipush 151, 3, 0, 0, .null) := by decide +kernel
theorem k196_35 : am_cd am_x 196 35 = some (.if_icmp .ge 27, 3, 62, 0, .null) := by decide +kernel
theorem k196_38 : am_cd am_x 196 38 = some (.aload_n 0, 1, 0, 0, .null) := by decide +kernel
theorem k196_39 : am_cd am_x 196 39 = some (.getfield 13, 3, 8, 1, .null) := by decide +kernel
theorem k196_42 : am_cd am_x 196 42 = some (.sipush 151, 3, 0, 0, .null) := by decide +kernel
theorem k196_45 : am_cd am_x 196 45 = some (.iload_n 1, 1, 0, 0, .null) := by decide +kernel
theorem k196_46 : am_cd am_x 196 46 = some (.imul, 1, 0, 0, .null) := by decide +kernel
theorem k196_47 : am_cd am_x 196 47 = some (.iload_n 3, 1, 0, 0, .null) := by decide +kernel
theorem k196_48 : am_cd am_x 196 48 = some (.iadd, 1, 0, 0, .null) := by decide +kernel
theorem k196_49 : am_cd am_x 196 49 = some (.aload_n 0, 1, 0, 0, .null) := by decide +kernel
theorem k196_50 : am_cd am_x 196 50 = some (.getfield 7, 3, 8, 0, .null) := by decide +kernel
theorem k196_53 : am_cd am_x 196 53 = some (.iload_n 3, 1, 0, 0, .null) := by decide +kernel
theorem k196_54 : am_cd am_x 196 54 = some (.iaload, 1, 0, 0, .null) := by decide +kernel
theorem k196_55 : am_cd am_x 196 55 = some (.iastore, 1, 0, 0, .null) := by decide +kernel
theorem k196_56 : am_cd am_x 196 56 = some (.iinc 3 1, 3, 0, 0, .null) := by decide +kernel
theorem k196_59 : am_cd am_x 196 59 = some (.goto (-28), 3, 31, 0, .null) := by decide +kernel
theorem k196_62 : am_cd am_x 196 62 = some (.iload_n 2, 1, 0, 0, .null) := by decide +kernel
theorem k196_63 : am_cd am_x 196 63 = some (.ireturn, 1, 0, 0, .null) := by decide +kernel
theorem k197_0 : am_cd am_x 197 0 = some (.iconst 0, 1, 0, 0, .null) := by decide +kernel
theorem k197_1 : am_cd am_x 197 1 = some (.istore_n 2, 1, 0, 0, .null) := by decide +kernel
theorem k197_2 : am_cd am_x 197 2 = some (.iload_n 2, 1, 0, 0, .null) := by decide +kernel
theorem k197_3 : am_cd am_x 197 3 = some (.sipush 151, 3, 0, 0, .null) := by decide +kernel
theorem k197_6 : am_cd am_x 197 6 = some (.if_icmp .ge 27, 3, 33, 0, .null) := by decide +kernel
theorem k197_9 : am_cd am_x 197 9 = some (.aload_n 0, 1, 0, 0, .null) := by decide +kernel
theorem k197_10 : am_cd am_x 197 10 = some (.getfield 7, 3, 8, 0, .null) := by decide +kernel
theorem k197_13 : am_cd am_x 197 13 = some (.iload_n 2, 1, 0, 0, .null) := by decide +kernel
theorem k197_14 : am_cd am_x 197 14 = some (.aload_n 0, 1, 0, 0, .null) := by decide +kernel
theorem k197_15 : am_cd am_x 197 15 = some (.getfield 13, 3, 8, 1, .null) := by decide +kernel
theorem k197_18 : am_cd am_x 197 18 = some (.sipush 151, 3, 0, 0, .null) := by decide +kernel
theorem k197_21 : am_cd am_x 197 21 = some (.iload_n 1, 1, 0, 0, .null) := by decide +kernel
theorem k197_22 : am_cd am_x 197 22 = some (.imul, 1, 0, 0, .null) := by decide +kernel
theorem k197_23 : am_cd am_x 197 23 = some (.iload_n 2, 1, 0, 0, .null) := by decide +kernel
theorem k197_24 : am_cd am_x 197 24 = some (.iadd, 1, 0, 0, .null) := by decide +kernel
theorem k197_25 : am_cd am_x 197 25 = some (.iaload, 1, 0, 0, .null) := by decide +kernel
theorem k197_26 : am_cd am_x 197 26 = some (.iastore, 1, 0, 0, .null) := by decide +kernel
theorem k197_27 : am_cd am_x 197 27 = some (.iinc 2 1, 3, 0, 0, .null) := by decide +kernel
theorem k197_30 : am_cd am_x 197 30 = some (.goto (-28), 3, 2, 0, .null) := by decide +kernel
theorem k197_33 : am_cd am_x 197 33 = some (.return_, 1, 0, 0, .null) := by decide +kernel
theorem k198_0 : am_cd am_x 198 0 = some (.iload_n 1, 1, 0, 0, .null) := by decide +kernel
theorem k198_1 : am_cd am_x 198 1 = some (.i2l, 1, 0, 0, .null) := by decide +kernel
theorem k198_2 : am_cd am_x 198 2 = some (.lconst 0, 1, 0, 0, .null) := by decide +kernel
theorem k198_3 : am_cd am_x 198 3 = some (.lconst 1, 1, 0, 0, .null) := by decide +kernel
theorem k198_4 : am_cd am_x 198 4 = some (.invokestatic 60, 3, 125, 0, .null) := by decide +kernel
theorem k198_7 : am_cd am_x 198 7 = some (.ifCond .ne 5, 3, 12, 0, .null) := by decide +kernel
theorem k198_10 : am_cd am_x 198 10 = some (.iconst (-1), 1, 0, 0, .null) := by decide +kernel
theorem k198_11 : am_cd am_x 198 11 = some (.ireturn, 1, 0, 0, .null) := by decide +kernel
theorem k198_12 : am_cd am_x 198 12 = some (.aload_n 0, 1, 0, 0, .null) := by decide +kernel
theorem k198_13 : am_cd am_x 198 13 = some (.getfield 16, 3, 8, 2, .null) := by decide +kernel
theorem k198_16 : am_cd am_x 198 16 = some (.iload_n 1, 1, 0, 0, .null) := by decide +kernel
theorem k198_17 : am_cd am_x 198 17 = some (.baload, 1, 0, 0, .null) := by decide +kernel
theorem k198_18 : am_cd am_x 198 18 = some (.ifCond .ne 6, 3, 24, 0, .null) := by decide +kernel
theorem k198_21 : am_cd am_x 198 21 = some (.bipush (-2), 2, 0, 0, .null) := by decide +kernel
theorem k198_23 : am_cd am_x 198 23 = some (.ireturn, 1, 0, 0, .null) := by decide +kernel
theorem k198_24 : am_cd am_x 198 24 = some (.aload_n 0, 1, 0, 0, .null) := by decide +kernel
theorem k198_25 : am_cd am_x 198 25 = some (.iload_n 1, 1, 0, 0, .null) := by decide +kernel
theorem k198_26 : am_cd am_x 198 26 = some (.invokevirtual 275, 3, 197, 8, .null) := by decide +kernel
theorem k198_29 : am_cd am_x 198 29 = some (.aload_n 0, 1, 0, 0, .null) := by decide +kernel
theorem k198_30 : am_cd am_x 198 30 = some (.getfield 7, 3, 8, 0, .null) := by decide +kernel
theorem k198_33 : am_cd am_x 198 33 = some (.iconst 0, 1, 0, 0, .null) := by decide +kernel
theorem k198_34 : am_cd am_x 198 34 = some (.iaload, 1, 0, 0, .null) := by decide +kernel
theorem k198_35 : am_cd am_x 198 35 = some (.ireturn, 1, 0, 0, .null) := by decide +kernel
theorem k199_0 : am_cd am_x 199 0 = some (.iconst 0, 1, 0, 0, .null) := by decide +kernel
theorem k199_1 : am_cd am_x 199 1 = some (.istore_n 2, 1, 0, 0, .null) := by decide +kernel
theorem k199_2 : am_cd am_x 199 2 = some (.iload_n 2, 1, 0, 0, .null) := by decide +kernel
theorem k199_3 : am_cd am_x 199 3 = some (.aload_n 0, 1, 0, 0, .null) := by decide +kernel
theorem k199_4 : am_cd am_x 199 4 = some (.getfield 7, 3, 8, 0, .null) := by decide +kernel
theorem k199_7 : am_cd am_x 199 7 = some (.iconst 1, 1, 0, 0, .null) := by decide +kernel
theorem k199_8 : am_cd am_x 199 8 = some (.iaload, 1, 0, 0, .null) := by decide +kernel
theorem k199_9 : am_cd am_x 199 9 = some (.if_icmp .ge 41, 3, 50, 0, .null) := by decide +kernel
theorem k199_12 : am_cd am_x 199 12 = some (.iconst 0, 1, 0, 0, .null) := by decide +kernel
theorem k199_13 : am_cd am_x 199 13 = some (.istore_n 3, 1, 0, 0, .null) := by decide +kernel
theorem k199_14 : am_cd am_x 199 14 = some (.iload_n 3, 1, 0, 0, .null) := by decide +kernel
theorem k199_15 : am_cd am_x 199 15 = some (.aload_n 0, 1, 0, 0, .null) := by decide +kernel
theorem k199_16 : am_cd am_x 199 16 = some (.getfield 7, 3, 8, 0, .null) := by decide +kernel
theorem k199_19 : am_cd am_x 199 19 = some (.iconst 2, 1, 0, 0, .null) := by decide +kernel
theorem k199_20 : am_cd am_x 199 20 = some (.iaload, 1, 0, 0, .null) := by decide +kernel
theorem k199_21 : am_cd am_x 199 21 = some (.if_icmp .ge 23, 3, 44, 0, .null) := by decide +kernel
theorem k199_24 : am_cd am_x 199 24 = some (.aload_n 1, 1, 0, 0, .null) := by decide +kernel
theorem k199_25 : am_cd am_x 199 25 = some (.bipush 8, 2, 0, 0, .null) := by decide +kernel
theorem k199_27 : am_cd am_x 199 27 = some (.iload_n 2, 1, 0, 0, .null) := by decide +kernel
theorem k199_28 : am_cd am_x 199 28 = some (.imul, 1, 0, 0, .null) := by decide +kernel
theorem k199_29 : am_cd am_x 199 29 = some (.iload_n 3, 1, 0, 0, .null) := by decide +kernel
theorem k199_30 : am_cd am_x 199 30 = some (.iadd, 1, 0, 0, .null) := by decide +kernel
theorem k199_31 : am_cd am_x 199 31 = some (.aload_n 0, 1, 0, 0, .null) := by decide +kernel
theorem k199_32 : am_cd am_x 199 32 = some (.iload_n 2, 1, 0, 0, .null) := by decide +kernel
theorem k199_33 : am_cd am_x 199 33 = some (.iload_n 3, 1, 0, 0, .null) := by decide +kernel
theorem k199_34 : am_cd am_x 199 34 = some (.invokevirtual 185, 3, 155, 8, .null) := by decide +kernel
theorem k199_37 : am_cd am_x 199 37 = some (.iastore, 1, 0, 0, .null) := by decide +kernel
theorem k199_38 : am_cd am_x 199 38 = some (.iinc 3 1, 3, 0, 0, .null) := by decide +kernel
theorem k199_41 : am_cd am_x 199 41 = some (.goto (-27), 3, 14, 0, .null) := by decide +kernel
theorem k199_44 : am_cd am_x 199 44 = some (.iinc 2 1, 3, 0, 0, .null) := by decide +kernel
theorem k199_47 : am_cd am_x 199 47 = some (.goto (-45), 3, 2, 0, .null) := by decide +kernel
theorem k199_50 : am_cd am_x 199 50 = some (.return_, 1, 0, 0, .null) := by decide +kernel
theorem k200_0 : am_cd am_x 200 0 = some (.iload_n 0, 1, 0, 0, .null) := by decide +kernel
theorem k200_1 : am_cd am_x 200 1 = some (.iload_n 1, 1, 0, 0, .null) := by decide +kernel
theorem k200_2 : am_cd am_x 200 2 = some (.if_icmp .eq 17, 3, 19, 0, .null) := by decide +kernel
theorem k200_5 : am_cd am_x 200 5 = some (.iload_n 0, 1, 0, 0, .null) := by decide +kernel
theorem k200_6 : am_cd am_x 200 6 = some (.iconst 2, 1, 0, 0, .null) := by decide +kernel
theorem k200_7 : am_cd am_x 200 7 = some (.if_icmp .eq 12, 3, 19, 0, .null) := by decide +kernel
theorem k200_10 : am_cd am_x 200 10 = some (.iload_n 1, 1, 0, 0, .null) := by decide +kernel
theorem k200_11 : am_cd am_x 200 11 = some (.iconst 2, 1, 0, 0, .null) := by decide +kernel
theorem k200_12 : am_cd am_x 200 12 = some (.if_icmp .eq 7, 3, 19, 0, .null) := by decide +kernel
theorem k200_15 : am_cd am_x 200 15 = some (.iconst 1, 1, 0, 0, .null) := by decide +kernel
theorem k200_16 : am_cd am_x 200 16 = some (.goto 4, 3, 20, 0, .null) := by decide +kernel
theorem k200_19 : am_cd am_x 200 19 = some (.iconst 0, 1, 0, 0, .null) := by decide +kernel
theorem k200_20 : am_cd am_x 200 20 = some (.ireturn, 1, 0, 0, .null) := by decide +kernel
theorem k201_0 : am_cd am_x 201 0 = some (.aload_n 0, 1, 0, 0, .null) := by decide +kernel
theorem k201_1 : am_cd am_x 201 1 = some (.aload_n 0, 1, 0, 0, .null) := by decide +kernel
theorem k201_2 : am_cd am_x 201 2 = some (.getfield 35, 3, 8, 25, .null) := by decide +kernel
theorem k201_5 : am_cd am_x 201 5 = some (.invokevirtual 278, 3, 199, 8, .null) := by decide +kernel
theorem k201_8 : am_cd am_x 201 8 = some (.iconst 0, 1, 0, 0, .null) := by decide +kernel
theorem k201_9 : am_cd am_x 201 9 = some (.istore_n 2, 1, 0, 0, .null) := by decide +kernel
theorem k201_10 : am_cd am_x 201 10 = some (.iload_n 2, 1, 0, 0, .null) := by decide +kernel
theorem k201_11 : am_cd am_x 201 11 = some (.sipush 151, 3, 0, 0, .null) := by decide +kernel
theorem k201_14 : am_cd am_x 201 14 = some (.if_icmp .ge 21, 3, 35, 0, .null) := by decide +kernel
theorem k201_17 : am_cd am_x 201 17 = some (.aload_n 0, 1, 0, 0, .null) := by decide +kernel
theorem k201_18 : am_cd am_x 201 18 = some (.getfield 32, 3, 8, 24, .null) := by decide +kernel
theorem k201_21 : am_cd am_x 201 21 = some (.iload_n 2, 1, 0, 0, .null) := by decide +kernel
theorem k201_22 : am_cd am_x 201 22 = some (.aload_n 0, 1, 0, 0, .null) := by decide +kernel
theorem k201_23 : am_cd am_x 201 23 = some (.getfield 7, 3, 8, 0, .null) := by decide +kernel
theorem k201_26 : am_cd am_x 201 26 = some (.iload_n 2, 1, 0, 0, .null) := by decide +kernel
theorem k201_27 : am_cd am_x 201 27 = some (.iaload, 1, 0, 0, .null) := by decide +kernel
theorem k201_28 : am_cd am_x 201 28 = some (.iastore, 1, 0, 0, .null) := by decide +kernel
theorem k201_29 : am_cd am_x 201 29 = some (.iinc 2 1, 3, 0, 0, .null) := by decide +kernel
theorem k201_32 : am_cd am_x 201 32 = some (.goto (-22), 3, 10, 0, .null) := by decide +kernel
theorem k201_35 : am_cd am_x 201 35 = some (.aload_n 0, 1, 0, 0, .null) := by decide +kernel
theorem k201_36 : am_cd am_x 201 36 = some (.iload_n 1, 1, 0, 0, .null) := by decide +kernel
theorem k201_37 : am_cd am_x 201 37 = some (.invokevirtual 275, 3, 197, 8, .null) := by decide +kernel
theorem k201_40 : am_cd am_x 201 40 = some (.aload_n 0, 1, 0, 0, .null) := by decide +kernel
theorem k201_41 : am_cd am_x 201 41 = some (.aload_n 0, 1, 0, 0, .null) := by decide +kernel
theorem k201_42 : am_cd am_x 201 42 = some (.getfield 38, 3, 8, 26, .null) := by decide +kernel
theorem k201_45 : am_cd am_x 201 45 = some (.invokevirtual 278, 3, 199, 8, .null) := by decide +kernel
theorem k201_48 : am_cd am_x 201 48 = some (.iconst 0, 1, 0, 0, .null) := by decide +kernel
theorem k201_49 : am_cd am_x 201 49 = some (.istore_n 2, 1, 0, 0, .null) := by decide +kernel
theorem k201_50 : am_cd am_x 201 50 = some (.iload_n 2, 1, 0, 0, .null) := by decide +kernel
theorem k201_51 : am_cd am_x 201 51 = some (.sipush 151, 3, 0, 0, .null) := by decide +kernel
theorem k201_54 : am_cd am_x 201 54 = some (.if_icmp .ge 21, 3, 75, 0, .null) := by decide +kernel
theorem k201_57 : am_cd am_x 201 57 = some (.aload_n 0, 1, 0, 0, .null) := by decide +kernel
theorem k201_58 : am_cd am_x 201 58 = some (.getfield 7, 3, 8, 0, .null) := by decide +kernel
theorem k201_61 : am_cd am_x 201 61 = some (.iload_n 2, 1, 0, 0, .null) := by decide +kernel
theorem k201_62 : am_cd am_x 201 62 = some (.aload_n 0, 1, 0, 0, .null) := by decide +kernel
theorem k201_63 : am_cd am_x 201 63 = some (.getfield 32, 3, 8, 24, .null) := by decide +kernel
theorem k201_66 : am_cd am_x 201 66 = some (.iload_n 2, 1, 0, 0, .null) := by decide +kernel
theorem k201_67 : am_cd am_x 201 67 = some (.iaload, 1, 0, 0, .null) := by decide +kernel
theorem k201_68 : am_cd am_x 201 68 = some (.iastore, 1, 0, 0, .null) := by decide +kernel
theorem k201_69 : am_cd am_x 201 69 = some (.iinc 2 1, 3, 0, 0, .null) := by decide +kernel
theorem k201_72 : am_cd am_x 201 72 = some (.goto (-22), 3, 50, 0, .null) := by decide +kernel
theorem k201_75 : am_cd am_x 201 75 = some (.iconst 0, 1, 0, 0, .null) := by decide +kernel
theorem k201_76 : am_cd am_x 201 76 = some (.istore_n 2, 1, 0, 0, .null) := by decide +kernel
theorem k201_77 : am_cd am_x 201 77 = some (.iconst 0, 1, 0, 0, .null) := by decide +kernel
theorem k201_78 : am_cd am_x 201 78 = some (.istore_n 3, 1, 0, 0, .null) := by decide +kernel
theorem k201_79 : am_cd am_x 201 79 = some (.iload_n 3, 1, 0, 0, .null) := by decide +kernel
theorem k201_80 : am_cd am_x 201 80 = some (.aload_n 0, 1, 0, 0, .null) := by decide +kernel
theorem k201_81 : am_cd am_x 201 81 = some (.getfield 7, 3, 8, 0, .null) := by decide +kernel
theorem k201_84 : am_cd am_x 201 84 = some (.iconst 1, 1, 0, 0, .null) := by decide +kernel
theorem k201_85 : am_cd am_x 201 85 = some (.iaload, 1, 0, 0, .null) := by decide +kernel
theorem k201_86 : am_cd am_x 201 86 = some (.if_icmp .ge 62, 3, 148, 0, .null) := by decide +kernel
theorem k201_89 : am_cd am_x 201 89 = some (.iconst 0, 1, 0, 0, .null) := by decide +kernel
theorem k201_90 : am_cd am_x 201 90 = some (.istore 4, 2, 0, 0, .null) := by decide +kernel
theorem k201_92 : am_cd am_x 201 92 = some (.iload 4, 2, 0, 0, .null) := by decide +kernel
theorem k201_94 : am_cd am_x 201 94 = some (.aload_n 0, 1, 0, 0, .null) := by decide +kernel
theorem k201_95 : am_cd am_x 201 95 = some (.getfield 7, 3, 8, 0, .null) := by decide +kernel
theorem k201_98 : am_cd am_x 201 98 = some (.iconst 2, 1, 0, 0, .null) := by decide +kernel
theorem k201_99 : am_cd am_x 201 99 = some (.iaload, 1, 0, 0, .null) := by decide +kernel
theorem k201_100 : am_cd am_x 201 100 = some (.if_icmp .ge 42, 3, 142, 0, .null) := by decide +kernel
theorem k201_103 : am_cd am_x 201 103 = some (.iload_n 2, 1, 0, 0, .null) := by decide +kernel
theorem k201_104 : am_cd am_x 201 104 = some (.aload_n 0, 1, 0, 0, .null) := by decide +kernel
theorem k201_105 : am_cd am_x 201 105 = some (.getfield 35, 3, 8, 25, .null) := by decide +kernel
theorem k201_108 : am_cd am_x 201 108 = some (.bipush 8, 2, 0, 0, .null) := by decide +kernel
theorem k201_110 : am_cd am_x 201 110 = some (.iload_n 3, 1, 0, 0, .null) := by decide +kernel
theorem k201_111 : am_cd am_x 201 111 = some (.imul, 1, 0, 0, .null) := by decide +kernel
theorem k201_112 : am_cd am_x 201 112 = some (.iload 4, 2, 0, 0, .null) := by decide +kernel
theorem k201_114 : am_cd am_x 201 114 = some (.iadd, 1, 0, 0, .null) := by decide +kernel
theorem k201_115 : am_cd am_x 201 115 = some (.iaload, 1, 0, 0, .null) := by decide +kernel
theorem k201_116 : am_cd am_x 201 116 = some (.aload_n 0, 1, 0, 0, .null) := by decide +kernel
theorem k201_117 : am_cd am_x 201 117 = some (.getfield 38, 3, 8, 26, .null) := by decide +kernel
theorem k201_120 : am_cd am_x 201 120 = some (.bipush 8, 2, 0, 0, .null) := by decide +kernel
theorem k201_122 : am_cd am_x 201 122 = some (.iload_n 3, 1, 0, 0, .null) := by decide +kernel
theorem k201_123 : am_cd am_x 201 123 = some (.imul, 1, 0, 0, .null) := by decide +kernel
theorem k201_124 : am_cd am_x 201 124 = some (.iload 4, 2, 0, 0, .null) := by decide +kernel
theorem k201_126 : am_cd am_x 201 126 = some (.iadd, 1, 0, 0, .null) := by decide +kernel
theorem k201_127 : am_cd am_x 201 127 = some (.iaload, 1, 0, 0, .null) := by decide +kernel
theorem k201_128 : am_cd am_x 201 128 = some (.invokestatic 282, 3, 200, 0, .null) := by decide +kernel
theorem k201_131 : am_cd am_x 201 131 = some (.invokestatic 188, 3, 126, 0, .null) := by decide +kernel
theorem k201_134 : am_cd am_x 201 134 = some (.iadd, 1, 0, 0, .null) := by decide +kernel
theorem k201_135 : am_cd am_x 201 135 = some (.istore_n 2, 1, 0, 0, .null) := by decide +kernel
theorem k201_136 : am_cd am_x 201 136 = some (.iinc 4 1, 3, 0, 0, .null) := by decide +kernel
theorem k201_139 : am_cd am_x 201 139 = some (.goto (-47), 3, 92, 0, .null) := by decide +kernel
theorem k201_142 : am_cd am_x 201 142 = some (.iinc 3 1, 3, 0, 0, .null) := by decide +kernel
theorem k201_145 : am_cd am_x 201 145 = some (.goto (-66), 3, 79, 0, .null) := by decide +kernel
theorem k201_148 : am_cd am_x 201 148 = some (.iload_n 2, 1, 0, 0, .null) := by decide +kernel
theorem k201_149 : am_cd am_x 201 149 = some (.ireturn, 1, 0, 0, .null) := by decide +kernel
theorem k202_0 : am_cd am_x 202 0 = some (.iconst 0, 1, 0, 0, .null) := by decide +kernel
theorem k202_1 : am_cd am_x 202 1 = some (.istore_n 2, 1, 0, 0, .null) := by decide +kernel
theorem k202_2 : am_cd am_x 202 2 = some (.iconst 0, 1, 0, 0, .null) := by decide +kernel
theorem k202_3 : am_cd am_x 202 3 = some (.istore_n 3, 1, 0, 0, .null) := by decide +kernel
theorem k202_4 : am_cd am_x 202 4 = some (.iload_n 3, 1, 0, 0, .null) := by decide +kernel
theorem k202_5 : am_cd am_x 202 5 = some (.aload_n 0, 1, 0, 0, .null) := by decide +kernel
theorem k202_6 : am_cd am_x 202 6 = some (.getfield 7, 3, 8, 0, .null) := by decide +kernel
theorem k202_9 : am_cd am_x 202 9 = some (.iconst 0, 1, 0, 0, .null) := by decide +kernel
theorem k202_10 : am_cd am_x 202 10 = some (.iaload, 1, 0, 0, .null) := by decide +kernel
theorem k202_11 : am_cd am_x 202 11 = some (.if_icmp .ge 66, 3, 77, 0, .null) := by decide +kernel
theorem k202_14 : am_cd am_x 202 14 = some (.iconst 0, 1, 0, 0, .null) := by decide +kernel
theorem k202_15 : am_cd am_x 202 15 = some (.istore 4, 2, 0, 0, .null) := by decide +kernel
theorem k202_17 : am_cd am_x 202 17 = some (.iload 4, 2, 0, 0, .null) := by decide +kernel
theorem k202_19 : am_cd am_x 202 19 = some (.aload_n 0, 1, 0, 0, .null) := by decide +kernel
theorem k202_20 : am_cd am_x 202 20 = some (.getfield 7, 3, 8, 0, .null) := by decide +kernel
theorem k202_23 : am_cd am_x 202 23 = some (.iconst 1, 1, 0, 0, .null) := by decide +kernel
theorem k202_24 : am_cd am_x 202 24 = some (.iaload, 1, 0, 0, .null) := by decide +kernel
theorem k202_25 : am_cd am_x 202 25 = some (.if_icmp .ge 46, 3, 71, 0, .null) := by decide +kernel
theorem k202_28 : am_cd am_x 202 28 = some (.iload_n 2, 1, 0, 0, .null) := by decide +kernel
theorem k202_29 : am_cd am_x 202 29 = some (.aload_n 0, 1, 0, 0, .null) := by decide +kernel
theorem k202_30 : am_cd am_x 202 30 = some (.iload_n 3, 1, 0, 0, .null) := by decide +kernel
theorem k202_31 : am_cd am_x 202 31 = some (.iload 4, 2, 0, 0, .null) := by decide +kernel
theorem k202_33 : am_cd am_x 202 33 = some (.invokevirtual 182, 3, 154, 8, .null) := by decide +kernel
theorem k202_36 : am_cd am_x 202 36 = some (.aload_n 0, 1, 0, 0, .null) := by decide +kernel
theorem k202_37 : am_cd am_x 202 37 = some (.getfield 13, 3, 8, 1, .null) := by decide +kernel
theorem k202_40 : am_cd am_x 202 40 = some (.sipush 151, 3, 0, 0, .null) := by decide +kernel
theorem k202_43 : am_cd am_x 202 43 = some (.iload_n 1, 1, 0, 0, .null) := by decide +kernel
theorem k202_44 : am_cd am_x 202 44 = some (.imul, 1, 0, 0, .null) := by decide +kernel
theorem k202_45 : am_cd am_x 202 45 = some (.bipush 7, 2, 0, 0, .null) := by decide +kernel
theorem k202_47 : am_cd am_x 202 47 = some (.iadd, 1, 0, 0, .null) := by decide +kernel
theorem k202_48 : am_cd am_x 202 48 = some (.bipush 8, 2, 0, 0, .null) := by decide +kernel
theorem k202_50 : am_cd am_x 202 50 = some (.iload_n 3, 1, 0, 0, .null) := by decide +kernel
theorem k202_51 : am_cd am_x 202 51 = some (.imul, 1, 0, 0, .null) := by decide +kernel
theorem k202_52 : am_cd am_x 202 52 = some (.iadd, 1, 0, 0, .null) := by decide +kernel
theorem k202_53 : am_cd am_x 202 53 = some (.iload 4, 2, 0, 0, .null) := by decide +kernel
theorem k202_55 : am_cd am_x 202 55 = some (.iadd, 1, 0, 0, .null) := by decide +kernel
theorem k202_56 : am_cd am_x 202 56 = some (.iaload, 1, 0, 0, .null) := by decide +kernel
theorem k202_57 : am_cd am_x 202 57 = some (.invokestatic 282, 3, 200, 0, .null) := by decide +kernel
theorem k202_60 : am_cd am_x 202 60 = some (.invokestatic 188, 3, 126, 0, .null) := by decide +kernel
theorem k202_63 : am_cd am_x 202 63 = some (.iadd, 1, 0, 0, .null) := by decide +kernel
theorem k202_64 : am_cd am_x 202 64 = some (.istore_n 2, 1, 0, 0, .null) := by decide +kernel
theorem k202_65 : am_cd am_x 202 65 = some (.iinc 4 1, 3, 0, 0, .null) := by decide +kernel
theorem k202_68 : am_cd am_x 202 68 = some (.goto (-51), 3, 17, 0, .null) := by decide +kernel
theorem k202_71 : am_cd am_x 202 71 = some (.iinc 3 1, 3, 0, 0, .null) := by decide +kernel
theorem k202_74 : am_cd am_x 202 74 = some (.goto (-70), 3, 4, 0, .null) := by decide +kernel
theorem k202_77 : am_cd am_x 202 77 = some (.iload_n 2, 1, 0, 0, .null) := by decide +kernel
theorem k202_78 : am_cd am_x 202 78 = some (.ireturn, 1, 0, 0, .null) := by decide +kernel
theorem k203_0 : am_cd am_x 203 0 = some (.iload_n 1, 1, 0, 0, .null) := by decide +kernel
theorem k203_1 : am_cd am_x 203 1 = some (.i2l, 1, 0, 0, .null) := by decide +kernel
theorem k203_2 : am_cd am_x 203 2 = some (.lconst 0, 1, 0, 0, .null) := by decide +kernel
theorem k203_3 : am_cd am_x 203 3 = some (.lconst 1, 1, 0, 0, .null) := by decide +kernel
theorem k203_4 : am_cd am_x 203 4 = some (.invokestatic 60, 3, 125, 0, .null) := by decide +kernel
theorem k203_7 : am_cd am_x 203 7 = some (.ifCond .eq 10, 3, 17, 0, .null) := by decide +kernel
theorem k203_10 : am_cd am_x 203 10 = some (.iload_n 2, 1, 0, 0, .null) := by decide +kernel
theorem k203_11 : am_cd am_x 203 11 = some (.invokestatic 231, 3, 153, 0, .null) := by decide +kernel
theorem k203_14 : am_cd am_x 203 14 = some (.ifCond .ne 5, 3, 19, 0, .null) := by decide +kernel
theorem k203_17 : am_cd am_x 203 17 = some (.iconst (-1), 1, 0, 0, .null) := by decide +kernel
theorem k203_18 : am_cd am_x 203 18 = some (.ireturn, 1, 0, 0, .null) := by decide +kernel
theorem k203_19 : am_cd am_x 203 19 = some (.aload_n 0, 1, 0, 0, .null) := by decide +kernel
theorem k203_20 : am_cd am_x 203 20 = some (.getfield 16, 3, 8, 2, .null) := by decide +kernel
theorem k203_23 : am_cd am_x 203 23 = some (.iload_n 1, 1, 0, 0, .null) := by decide +kernel
theorem k203_24 : am_cd am_x 203 24 = some (.baload, 1, 0, 0, .null) := by decide +kernel
theorem k203_25 : am_cd am_x 203 25 = some (.istore_n 3, 1, 0, 0, .null) := by decide +kernel
theorem k203_26 : am_cd am_x 203 26 = some (.iconst 0, 1, 0, 0, .null) := by decide +kernel
theorem k203_27 : am_cd am_x 203 27 = some (.istore 4, 2, 0, 0, .null) := by decide +kernel
theorem k203_29 : am_cd am_x 203 29 = some (.iload 4, 2, 0, 0, .null) := by decide +kernel
theorem k203_31 : am_cd am_x 203 31 = some (.iconst 2, 1, 0, 0, .null) := by decide +kernel
theorem k203_32 : am_cd am_x 203 32 = some (.if_icmp .gt 42, 3, 74, 0, .null) := by decide +kernel
theorem k203_35 : am_cd am_x 203 35 = some (.iload_n 3, 1, 0, 0, .null) := by decide +kernel
theorem k203_36 : am_cd am_x 203 36 = some (.ifCond .eq 30, 3, 66, 0, .null) := by decide +kernel
theorem k203_39 : am_cd am_x 203 39 = some (.aload_n 0, 1, 0, 0, .null) := by decide +kernel
theorem k203_40 : am_cd am_x 203 40 = some (.getfield 13, 3, 8, 1, .null) := by decide +kernel
theorem k203_43 : am_cd am_x 203 43 = some (.sipush 151, 3, 0, 0, .null) := by decide +kernel
theorem k203_46 : am_cd am_x 203 46 = some (.iload_n 1, 1, 0, 0, .null) := by decide +kernel
theorem k203_47 : am_cd am_x 203 47 = some (.imul, 1, 0, 0, .null) := by decide +kernel
theorem k203_48 : am_cd am_x 203 48 = some (.iload 4, 2, 0, 0, .null) := by decide +kernel
theorem k203_50 : am_cd am_x 203 50 = some (.iadd, 1, 0, 0, .null) := by decide +kernel
theorem k203_51 : am_cd am_x 203 51 = some (.iaload, 1, 0, 0, .null) := by decide +kernel
theorem k203_52 : am_cd am_x 203 52 = some (.aload_n 0, 1, 0, 0, .null) := by decide +kernel
theorem k203_53 : am_cd am_x 203 53 = some (.getfield 7, 3, 8, 0, .null) := by decide +kernel
theorem k203_56 : am_cd am_x 203 56 = some (.iload 4, 2, 0, 0, .null) := by decide +kernel
theorem k203_58 : am_cd am_x 203 58 = some (.iaload, 1, 0, 0, .null) := by decide +kernel
theorem k203_59 : am_cd am_x 203 59 = some (.if_icmp .ne 7, 3, 66, 0, .null) := by decide +kernel
theorem k203_62 : am_cd am_x 203 62 = some (.iconst 1, 1, 0, 0, .null) := by decide +kernel
theorem k203_63 : am_cd am_x 203 63 = some (.goto 4, 3, 67, 0, .null) := by decide +kernel
theorem k203_66 : am_cd am_x 203 66 = some (.iconst 0, 1, 0, 0, .null) := by decide +kernel
theorem k203_67 : am_cd am_x 203 67 = some (.istore_n 3, 1, 0, 0, .null) := by decide +kernel
theorem k203_68 : am_cd am_x 203 68 = some (.iinc 4 1, 3, 0, 0, .null) := by decide +kernel
theorem k203_71 : am_cd am_x 203 71 = some (.goto (-42), 3, 29, 0, .null) := by decide +kernel
theorem k203_74 : am_cd am_x 203 74 = some (.iload_n 3, 1, 0, 0, .null) := by decide +kernel
theorem k203_75 : am_cd am_x 203 75 = some (.ifCond .ne 6, 3, 81, 0, .null) := by decide +kernel
theorem k203_78 : am_cd am_x 203 78 = some (.bipush (-2), 2, 0, 0, .null) := by decide +kernel
theorem k203_80 : am_cd am_x 203 80 = some (.ireturn, 1, 0, 0, .null) := by decide +kernel
theorem k203_81 : am_cd am_x 203 81 = some (.iload_n 2, 1, 0, 0, .null) := by decide +kernel
theorem k203_82 : am_cd am_x 203 82 = some (.ifCond .ne 11, 3, 93, 0, .null) := by decide +kernel
theorem k203_85 : am_cd am_x 203 85 = some (.aload_n 0, 1, 0, 0, .null) := by decide +kernel
theorem k203_86 : am_cd am_x 203 86 = some (.iload_n 1, 1, 0, 0, .null) := by decide +kernel
theorem k203_87 : am_cd am_x 203 87 = some (.invokevirtual 285, 3, 201, 8, .null) := by decide +kernel
theorem k203_90 : am_cd am_x 203 90 = some (.goto 8, 3, 98, 0, .null) := by decide +kernel
theorem k203_93 : am_cd am_x 203 93 = some (.aload_n 0, 1, 0, 0, .null) := by decide +kernel
theorem k203_94 : am_cd am_x 203 94 = some (.iload_n 1, 1, 0, 0, .null) := by decide +kernel
theorem k203_95 : am_cd am_x 203 95 = some (.invokevirtual 288, 3, 202, 8, .null) := by decide +kernel
theorem k203_98 : am_cd am_x 203 98 = some (.ireturn, 1, 0, 0, .null) := by decide +kernel
theorem k204_0 : am_cd am_x 204 0 = some (.iload_n 0, 1, 0, 0, .null) := by decide +kernel
theorem k204_1 : am_cd am_x 204 1 = some (.i2l, 1, 0, 0, .null) := by decide +kernel
theorem k204_2 : am_cd am_x 204 2 = some (.lconst 0, 1, 0, 0, .null) := by decide +kernel
theorem k204_3 : am_cd am_x 204 3 = some (.ldc2_w 291, 3, 0, 0, .long 3) := by decide +kernel
theorem k204_6 : am_cd am_x 204 6 = some (.invokestatic 60, 3, 125, 0, .null) := by decide +kernel
theorem k204_9 : am_cd am_x 204 9 = some (.ifCond .eq 19, 3, 28, 0, .null) := by decide +kernel
theorem k204_12 : am_cd am_x 204 12 = some (.iload_n 1, 1, 0, 0, .null) := by decide +kernel
theorem k204_13 : am_cd am_x 204 13 = some (.i2l, 1, 0, 0, .null) := by decide +kernel
theorem k204_14 : am_cd am_x 204 14 = some (.lconst 0, 1, 0, 0, .null) := by decide +kernel
theorem k204_15 : am_cd am_x 204 15 = some (.ldc2_w 200, 3, 0, 0, .long 2) := by decide +kernel
theorem k204_18 : am_cd am_x 204 18 = some (.invokestatic 60, 3, 125, 0, .null) := by decide +kernel
theorem k204_21 : am_cd am_x 204 21 = some (.ifCond .eq 7, 3, 28, 0, .null) := by decide +kernel
theorem k204_24 : am_cd am_x 204 24 = some (.iconst 1, 1, 0, 0, .null) := by decide +kernel
theorem k204_25 : am_cd am_x 204 25 = some (.goto 4, 3, 29, 0, .null) := by decide +kernel
theorem k204_28 : am_cd am_x 204 28 = some (.iconst 0, 1, 0, 0, .null) := by decide +kernel
theorem k204_29 : am_cd am_x 204 29 = some (.ireturn, 1, 0, 0, .null) := by decide +kernel
theorem k205_0 : am_cd am_x 205 0 = some (.iload_n 1, 1, 0, 0, .null) := by decide +kernel
theorem k205_1 : am_cd am_x 205 1 = some (.iload_n 2, 1, 0, 0, .null) := by decide +kernel
theorem k205_2 : am_cd am_x 205 2 = some (.invokestatic 293, 3, 204, 0, .null) := by decide +kernel
theorem k205_5 : am_cd am_x 205 5 = some (.ifCond .eq 9, 3, 14, 0, .null) := by decide +kernel
theorem k205_8 : am_cd am_x 205 8 = some (.iload_n 3, 1, 0, 0, .null) := by decide +kernel
theorem k205_9 : am_cd am_x 205 9 = some (.bipush 40, 2, 0, 0, .null) := by decide +kernel
theorem k205_11 : am_cd am_x 205 11 = some (.if_icmp .le 5, 3, 16, 0, .null) := by decide +kernel
theorem k205_14 : am_cd am_x 205 14 = some (.iconst (-1), 1, 0, 0, .null) := by decide +kernel
theorem k205_15 : am_cd am_x 205 15 = some (.ireturn, 1, 0, 0, .null) := by decide +kernel
theorem k205_16 : am_cd am_x 205 16 = some (.iload_n 3, 1, 0, 0, .null) := by decide +kernel
theorem k205_17 : am_cd am_x 205 17 = some (.ifCond .ge 6, 3, 23, 0, .null) := by decide +kernel
theorem k205_20 : am_cd am_x 205 20 = some (.bipush (-14), 2, 0, 0, .null) := by decide +kernel
theorem k205_22 : am_cd am_x 205 22 = some (.ireturn, 1, 0, 0, .null) := by decide +kernel
theorem k205_23 : am_cd am_x 205 23 = some (.aload_n 0, 1, 0, 0, .null) := by decide +kernel
theorem k205_24 : am_cd am_x 205 24 = some (.getfield 41, 3, 8, 27, .null) := by decide +kernel
theorem k205_27 : am_cd am_x 205 27 = some (.iload_n 1, 1, 0, 0, .null) := by decide +kernel
theorem k205_28 : am_cd am_x 205 28 = some (.iload_n 2, 1, 0, 0, .null) := by decide +kernel
theorem k205_29 : am_cd am_x 205 29 = some (.iastore, 1, 0, 0, .null) := by decide +kernel
theorem k205_30 : am_cd am_x 205 30 = some (.aload_n 0, 1, 0, 0, .null) := by decide +kernel
theorem k205_31 : am_cd am_x 205 31 = some (.getfield 44, 3, 8, 28, .null) := by decide +kernel
theorem k205_34 : am_cd am_x 205 34 = some (.iload_n 1, 1, 0, 0, .null) := by decide +kernel
theorem k205_35 : am_cd am_x 205 35 = some (.iload_n 3, 1, 0, 0, .null) := by decide +kernel
theorem k205_36 : am_cd am_x 205 36 = some (.iastore, 1, 0, 0, .null) := by decide +kernel
theorem k205_37 : am_cd am_x 205 37 = some (.iconst 0, 1, 0, 0, .null) := by decide +kernel
theorem k205_38 : am_cd am_x 205 38 = some (.istore 4, 2, 0, 0, .null) := by decide +kernel
theorem k205_40 : am_cd am_x 205 40 = some (.iload 4, 2, 0, 0, .null) := by decide +kernel
theorem k205_42 : am_cd am_x 205 42 = some (.bipush 40, 2, 0, 0, .null) := by decide +kernel
theorem k205_44 : am_cd am_x 205 44 = some (.if_icmp .ge 22, 3, 66, 0, .null) := by decide +kernel
theorem k205_47 : am_cd am_x 205 47 = some (.aload_n 0, 1, 0, 0, .null) := by decide +kernel
theorem k205_48 : am_cd am_x 205 48 = some (.getfield 47, 3, 8, 29, .null) := by decide +kernel
theorem k205_51 : am_cd am_x 205 51 = some (.bipush 40, 2, 0, 0, .null) := by decide +kernel
theorem k205_53 : am_cd am_x 205 53 = some (.iload_n 1, 1, 0, 0, .null) := by decide +kernel
theorem k205_54 : am_cd am_x 205 54 = some (.imul, 1, 0, 0, .null) := by decide +kernel
theorem k205_55 : am_cd am_x 205 55 = some (.iload 4, 2, 0, 0, .null) := by decide +kernel
theorem k205_57 : am_cd am_x 205 57 = some (.iadd, 1, 0, 0, .null) := by decide +kernel
theorem k205_58 : am_cd am_x 205 58 = some (.iconst 0, 1, 0, 0, .null) := by decide +kernel
theorem k205_59 : am_cd am_x 205 59 = some (.iastore, 1, 0, 0, .null) := by decide +kernel
theorem k205_60 : am_cd am_x 205 60 = some (.iinc 4 1, 3, 0, 0, .null) := by decide +kernel
theorem k205_63 : am_cd am_x 205 63 = some (.goto (-23), 3, 40, 0, .null) := by decide +kernel
theorem k205_66 : am_cd am_x 205 66 = some (.iconst 1, 1, 0, 0, .null) := by decide +kernel
theorem k205_67 : am_cd am_x 205 67 = some (.ireturn, 1, 0, 0, .null) := by decide +kernel
theorem k206_0 : am_cd am_x 206 0 = some (.iload_n 1, 1, 0, 0, .null) := by decide +kernel
theorem k206_1 : am_cd am_x 206 1 = some (.iconst 0, 1, 0, 0, .null) := by decide +kernel
theorem k206_2 : am_cd am_x 206 2 = some (.invokestatic 293, 3, 204, 0, .null) := by decide +kernel
theorem k206_5 : am_cd am_x 206 5 = some (.ifCond .ne 5, 3, 10, 0, .null) := by decide +kernel
theorem k206_8 : am_cd am_x 206 8 = some (.iconst (-1), 1, 0, 0, .null) := by decide +kernel
theorem k206_9 : am_cd am_x 206 9 = some (.ireturn, 1, 0, 0, .null) := by decide +kernel
theorem k206_10 : am_cd am_x 206 10 = some (.aload_n 0, 1, 0, 0, .null) := by decide +kernel
theorem k206_11 : am_cd am_x 206 11 = some (.getfield 41, 3, 8, 27, .null) := by decide +kernel
theorem k206_14 : am_cd am_x 206 14 = some (.iload_n 1, 1, 0, 0, .null) := by decide +kernel
theorem k206_15 : am_cd am_x 206 15 = some (.iaload, 1, 0, 0, .null) := by decide +kernel
theorem k206_16 : am_cd am_x 206 16 = some (.bipush (-4), 2, 0, 0, .null) := by decide +kernel
theorem k206_18 : am_cd am_x 206 18 = some (.if_icmp .ne 6, 3, 24, 0, .null) := by decide +kernel
theorem k206_21 : am_cd am_x 206 21 = some (.bipush (-11), 2, 0, 0, .null) := by decide +kernel
theorem k206_23 : am_cd am_x 206 23 = some (.ireturn, 1, 0, 0, .null) := by decide +kernel
theorem k206_24 : am_cd am_x 206 24 = some (.iload_n 2, 1, 0, 0, .null) := by decide +kernel
theorem k206_25 : am_cd am_x 206 25 = some (.i2l, 1, 0, 0, .null) := by decide +kernel
theorem k206_26 : am_cd am_x 206 26 = some (.lconst 0, 1, 0, 0, .null) := by decide +kernel
theorem k206_27 : am_cd am_x 206 27 = some (.aload_n 0, 1, 0, 0, .null) := by decide +kernel
theorem k206_28 : am_cd am_x 206 28 = some (.getfield 44, 3, 8, 28, .null) := by decide +kernel
theorem k206_31 : am_cd am_x 206 31 = some (.iload_n 1, 1, 0, 0, .null) := by decide +kernel
theorem k206_32 : am_cd am_x 206 32 = some (.iaload, 1, 0, 0, .null) := by decide +kernel
theorem k206_33 : am_cd am_x 206 33 = some (.iconst 1, 1, 0, 0, .null) := by decide +kernel
theorem k206_34 : am_cd am_x 206 34 = some (.isub, 1, 0, 0, .null) := by decide +kernel
theorem k206_35 : am_cd am_x 206 35 = some (.i2l, 1, 0, 0, .null) := by decide +kernel
theorem k206_36 : am_cd am_x 206 36 = some (.invokestatic 60, 3, 125, 0, .null) := by decide +kernel
theorem k206_39 : am_cd am_x 206 39 = some (.ifCond .ne 6, 3, 45, 0, .null) := by decide +kernel
theorem k206_42 : am_cd am_x 206 42 = some (.bipush (-12), 2, 0, 0, .null) := by decide +kernel
theorem k206_44 : am_cd am_x 206 44 = some (.ireturn, 1, 0, 0, .null) := by decide +kernel
theorem k206_45 : am_cd am_x 206 45 = some (.aload_n 0, 1, 0, 0, .null) := by decide +kernel
theorem k206_46 : am_cd am_x 206 46 = some (.getfield 47, 3, 8, 29, .null) := by decide +kernel
theorem k206_49 : am_cd am_x 206 49 = some (.bipush 40, 2, 0, 0, .null) := by decide +kernel
theorem k206_51 : am_cd am_x 206 51 = some (.iload_n 1, 1, 0, 0, .null) := by decide +kernel
theorem k206_52 : am_cd am_x 206 52 = some (.imul, 1, 0, 0, .null) := by decide +kernel
theorem k206_53 : am_cd am_x 206 53 = some (.iload_n 2, 1, 0, 0, .null) := by decide +kernel
theorem k206_54 : am_cd am_x 206 54 = some (.iadd, 1, 0, 0, .null) := by decide +kernel
theorem k206_55 : am_cd am_x 206 55 = some (.aload_n 0, 1, 0, 0, .null) := by decide +kernel
theorem k206_56 : am_cd am_x 206 56 = some (.getfield 41, 3, 8, 27, .null) := by decide +kernel
theorem k206_59 : am_cd am_x 206 59 = some (.iload_n 1, 1, 0, 0, .null) := by decide +kernel
theorem k206_60 : am_cd am_x 206 60 = some (.iaload, 1, 0, 0, .null) := by decide +kernel
theorem k206_61 : am_cd am_x 206 61 = some (.ifCond .ne 8, 3, 69, 0, .null) := by decide +kernel
theorem k206_64 : am_cd am_x 206 64 = some (.iload_n 3, 1, 0, 0, .null) := by decide +kernel
theorem k206_65 : am_cd am_x 206 65 = some (.i2b, 1, 0, 0, .null) := by decide +kernel
theorem k206_66 : am_cd am_x 206 66 = some (.goto 19, 3, 85, 0, .null) := by decide +kernel
theorem k206_69 : am_cd am_x 206 69 = some (.aload_n 0, 1, 0, 0, .null) := by decide +kernel
theorem k206_70 : am_cd am_x 206 70 = some (.getfield 41, 3, 8, 27, .null) := by decide +kernel
theorem k206_73 : am_cd am_x 206 73 = some (.iload_n 1, 1, 0, 0, .null) := by decide +kernel
theorem k206_74 : am_cd am_x 206 74 = some (.iaload, 1, 0, 0, .null) := by decide +kernel
theorem k206_75 : am_cd am_x 206 75 = some (.iconst 1, 1, 0, 0, .null) := by decide +kernel
theorem k206_76 : am_cd am_x 206 76 = some (.if_icmp .ne 8, 3, 84, 0, .null) := by decide +kernel
theorem k206_79 : am_cd am_x 206 79 = some (.iload_n 3, 1, 0, 0, .null) := by decide +kernel
theorem k206_80 : am_cd am_x 206 80 = some (.i2s, 1, 0, 0, .null) := by decide +kernel
theorem k206_81 : am_cd am_x 206 81 = some (.goto 4, 3, 85, 0, .null) := by decide +kernel
theorem k206_84 : am_cd am_x 206 84 = some (.iload_n 3, 1, 0, 0, .null) := by decide +kernel
theorem k206_85 : am_cd am_x 206 85 = some (.iastore, 1, 0, 0, .null) := by decide +kernel
theorem k206_86 : am_cd am_x 206 86 = some (.iconst 1, 1, 0, 0, .null) := by decide +kernel
theorem k206_87 : am_cd am_x 206 87 = some (.ireturn, 1, 0, 0, .null) := by decide +kernel
theorem k207_0 : am_cd am_x 207 0 = some (.iload_n 1, 1, 0, 0, .null) := by decide +kernel
theorem k207_1 : am_cd am_x 207 1 = some (.iload_n 2, 1, 0, 0, .null) := by decide +kernel
theorem k207_2 : am_cd am_x 207 2 = some (.invokestatic 293, 3, 204, 0, .null) := by decide +kernel
theorem k207_5 : am_cd am_x 207 5 = some (.ifCond .eq 16, 3, 21, 0, .null) := by decide +kernel
theorem k207_8 : am_cd am_x 207 8 = some (.iload 4, 2, 0, 0, .null) := by decide +kernel
theorem k207_10 : am_cd am_x 207 10 = some (.i2l, 1, 0, 0, .null) := by decide +kernel
theorem k207_11 : am_cd am_x 207 11 = some (.lconst 0, 1, 0, 0, .null) := by decide +kernel
theorem k207_12 : am_cd am_x 207 12 = some (.ldc2_w 296, 3, 0, 0, .long 13) := by decide +kernel
theorem k207_15 : am_cd am_x 207 15 = some (.invokestatic 60, 3, 125, 0, .null) := by decide +kernel
theorem k207_18 : am_cd am_x 207 18 = some (.ifCond .ne 5, 3, 23, 0, .null) := by decide +kernel
theorem k207_21 : am_cd am_x 207 21 = some (.iconst (-1), 1, 0, 0, .null) := by decide +kernel
theorem k207_22 : am_cd am_x 207 22 = some (.ireturn, 1, 0, 0, .null) := by decide +kernel
theorem k207_23 : am_cd am_x 207 23 = some (.iconst 0, 1, 0, 0, .null) := by decide +kernel
theorem k207_24 : am_cd am_x 207 24 = some (.istore 5, 2, 0, 0, .null) := by decide +kernel
theorem k207_26 : am_cd am_x 207 26 = some (.iload 5, 2, 0, 0, .null) := by decide +kernel
theorem k207_28 : am_cd am_x 207 28 = some (.sipush 151, 3, 0, 0, .null) := by decide +kernel
theorem k207_31 : am_cd am_x 207 31 = some (.if_icmp .ge 23, 3, 54, 0, .null) := by decide +kernel
theorem k207_34 : am_cd am_x 207 34 = some (.aload_n 0, 1, 0, 0, .null) := by decide +kernel
theorem k207_35 : am_cd am_x 207 35 = some (.getfield 32, 3, 8, 24, .null) := by decide +kernel
theorem k207_38 : am_cd am_x 207 38 = some (.iload 5, 2, 0, 0, .null) := by decide +kernel
theorem k207_40 : am_cd am_x 207 40 = some (.aload_n 0, 1, 0, 0, .null) := by decide +kernel
theorem k207_41 : am_cd am_x 207 41 = some (.getfield 7, 3, 8, 0, .null) := by decide +kernel
theorem k207_44 : am_cd am_x 207 44 = some (.iload 5, 2, 0, 0, .null) := by decide +kernel
theorem k207_46 : am_cd am_x 207 46 = some (.iaload, 1, 0, 0, .null) := by decide +kernel
theorem k207_47 : am_cd am_x 207 47 = some (.iastore, 1, 0, 0, .null) := by decide +kernel
theorem k207_48 : am_cd am_x 207 48 = some (.iinc 5 1, 3, 0, 0, .null) := by decide +kernel
theorem k207_51 : am_cd am_x 207 51 = some (.goto (-25), 3, 26, 0, .null) := by decide +kernel
theorem k207_54 : am_cd am_x 207 54 = some (.iconst 0, 1, 0, 0, .null) := by decide +kernel
theorem k207_55 : am_cd am_x 207 55 = some (.istore 5, 2, 0, 0, .null) := by decide +kernel
theorem k207_57 : am_cd am_x 207 57 = some (.iconst 0, 1, 0, 0, .null) := by decide +kernel
theorem k207_58 : am_cd am_x 207 58 = some (.istore 6, 2, 0, 0, .null) := by decide +kernel
theorem k207_60 : am_cd am_x 207 60 = some (.iconst 0, 1, 0, 0, .null) := by decide +kernel
theorem k207_61 : am_cd am_x 207 61 = some (.istore 7, 2, 0, 0, .null) := by decide +kernel
theorem k207_63 : am_cd am_x 207 63 = some (.iload 7, 2, 0, 0, .null) := by decide +kernel
theorem k207_65 : am_cd am_x 207 65 = some (.iload 4, 2, 0, 0, .null) := by decide +kernel
theorem k207_67 : am_cd am_x 207 67 = some (.if_icmp .ge 194, 3, 261, 0, .null) := by decide +kernel
theorem k207_70 : am_cd am_x 207 70 = some (.iload 5, 2, 0, 0, .null) := by decide +kernel
theorem k207_72 : am_cd am_x 207 72 = some (.ifCond .ne 189, 3, 261, 0, .null) := by decide +kernel
theorem k207_75 : am_cd am_x 207 75 = some (.iconst 0, 1, 0, 0, .null) := by decide +kernel
theorem k207_76 : am_cd am_x 207 76 = some (.istore 8, 2, 0, 0, .null) := by decide +kernel
theorem k207_78 : am_cd am_x 207 78 = some (.iload 8, 2, 0, 0, .null) := by decide +kernel
theorem k207_80 : am_cd am_x 207 80 = some (.iconst 3, 1, 0, 0, .null) := by decide +kernel
theorem k207_81 : am_cd am_x 207 81 = some (.if_icmp .ge 84, 3, 165, 0, .null) := by decide +kernel
theorem k207_84 : am_cd am_x 207 84 = some (.iload 5, 2, 0, 0, .null) := by decide +kernel
theorem k207_86 : am_cd am_x 207 86 = some (.ifCond .ne 79, 3, 165, 0, .null) := by decide +kernel
theorem k207_89 : am_cd am_x 207 89 = some (.iload_n 3, 1, 0, 0, .null) := by decide +kernel
theorem k207_90 : am_cd am_x 207 90 = some (.i2l, 1, 0, 0, .null) := by decide +kernel
theorem k207_91 : am_cd am_x 207 91 = some (.iconst 3, 1, 0, 0, .null) := by decide +kernel
theorem k207_92 : am_cd am_x 207 92 = some (.iload 7, 2, 0, 0, .null) := by decide +kernel
theorem k207_94 : am_cd am_x 207 94 = some (.imul, 1, 0, 0, .null) := by decide +kernel
theorem k207_95 : am_cd am_x 207 95 = some (.i2l, 1, 0, 0, .null) := by decide +kernel
theorem k207_96 : am_cd am_x 207 96 = some (.ladd, 1, 0, 0, .null) := by decide +kernel
theorem k207_97 : am_cd am_x 207 97 = some (.iload 8, 2, 0, 0, .null) := by decide +kernel
theorem k207_99 : am_cd am_x 207 99 = some (.i2l, 1, 0, 0, .null) := by decide +kernel
theorem k207_100 : am_cd am_x 207 100 = some (.ladd, 1, 0, 0, .null) := by decide +kernel
theorem k207_101 : am_cd am_x 207 101 = some (.lstore 9, 2, 0, 0, .null) := by decide +kernel
theorem k207_103 : am_cd am_x 207 103 = some (.aload_n 0, 1, 0, 0, .null) := by decide +kernel
theorem k207_104 : am_cd am_x 207 104 = some (.getfield 41, 3, 8, 27, .null) := by decide +kernel
theorem k207_107 : am_cd am_x 207 107 = some (.iload_n 1, 1, 0, 0, .null) := by decide +kernel
theorem k207_108 : am_cd am_x 207 108 = some (.iaload, 1, 0, 0, .null) := by decide +kernel
theorem k207_109 : am_cd am_x 207 109 = some (.bipush (-4), 2, 0, 0, .null) := by decide +kernel
theorem k207_111 : am_cd am_x 207 111 = some (.if_icmp .ne 7, 3, 118, 0, .null) := by decide +kernel
theorem k207_114 : am_cd am_x 207 114 = some (.iconst 1, 1, 0, 0, .null) := by decide +kernel
theorem k207_115 : am_cd am_x 207 115 = some (.goto 42, 3, 157, 0, .null) := by decide +kernel
theorem k207_118 : am_cd am_x 207 118 = some (.aload_n 0, 1, 0, 0, .null) := by decide +kernel
theorem k207_119 : am_cd am_x 207 119 = some (.getfield 41, 3, 8, 27, .null) := by decide +kernel
theorem k207_122 : am_cd am_x 207 122 = some (.iload_n 1, 1, 0, 0, .null) := by decide +kernel
theorem k207_123 : am_cd am_x 207 123 = some (.iaload, 1, 0, 0, .null) := by decide +kernel
theorem k207_124 : am_cd am_x 207 124 = some (.iload_n 2, 1, 0, 0, .null) := by decide +kernel
theorem k207_125 : am_cd am_x 207 125 = some (.if_icmp .eq 7, 3, 132, 0, .null) := by decide +kernel
theorem k207_128 : am_cd am_x 207 128 = some (.iconst 3, 1, 0, 0, .null) := by decide +kernel
theorem k207_129 : am_cd am_x 207 129 = some (.goto 28, 3, 157, 0, .null) := by decide +kernel
theorem k207_132 : am_cd am_x 207 132 = some (.lload 9, 2, 0, 0, .null) := by decide +kernel
theorem k207_134 : am_cd am_x 207 134 = some (.lconst 0, 1, 0, 0, .null) := by decide +kernel
theorem k207_135 : am_cd am_x 207 135 = some (.lcmp, 1, 0, 0, .null) := by decide +kernel
theorem k207_136 : am_cd am_x 207 136 = some (.ifCond .lt 16, 3, 152, 0, .null) := by decide +kernel
theorem k207_139 : am_cd am_x 207 139 = some (.lload 9, 2, 0, 0, .null) := by decide +kernel
theorem k207_141 : am_cd am_x 207 141 = some (.aload_n 0, 1, 0, 0, .null) := by decide +kernel
theorem k207_142 : am_cd am_x 207 142 = some (.getfield 44, 3, 8, 28, .null) := by decide +kernel
theorem k207_145 : am_cd am_x 207 145 = some (.iload_n 1, 1, 0, 0, .null) := by decide +kernel
theorem k207_146 : am_cd am_x 207 146 = some (.iaload, 1, 0, 0, .null) := by decide +kernel
theorem k207_147 : am_cd am_x 207 147 = some (.i2l, 1, 0, 0, .null) := by decide +kernel
theorem k207_148 : am_cd am_x 207 148 = some (.lcmp, 1, 0, 0, .null) := by decide +kernel
theorem k207_149 : am_cd am_x 207 149 = some (.ifCond .lt 7, 3, 156, 0, .null) := by decide +kernel
theorem k207_152 : am_cd am_x 207 152 = some (.iconst 2, 1, 0, 0, .null) := by decide +kernel
theorem k207_153 : am_cd am_x 207 153 = some (.goto 4, 3, 157, 0, .null) := by decide +kernel
theorem k207_156 : am_cd am_x 207 156 = some (.iconst 0, 1, 0, 0, .null) := by decide +kernel
theorem k207_157 : am_cd am_x 207 157 = some (.istore 5, 2, 0, 0, .null) := by decide +kernel
theorem k207_159 : am_cd am_x 207 159 = some (.iinc 8 1, 3, 0, 0, .null) := by decide +kernel
theorem k207_162 : am_cd am_x 207 162 = some (.goto (-84), 3, 78, 0, .null) := by decide +kernel
theorem k207_165 : am_cd am_x 207 165 = some (.iload 5, 2, 0, 0, .null) := by decide +kernel
theorem k207_167 : am_cd am_x 207 167 = some (.ifCond .ne 88, 3, 255, 0, .null) := by decide +kernel
theorem k207_170 : am_cd am_x 207 170 = some (.bipush 40, 2, 0, 0, .null) := by decide +kernel
theorem k207_172 : am_cd am_x 207 172 = some (.iload_n 1, 1, 0, 0, .null) := by decide +kernel
theorem k207_173 : am_cd am_x 207 173 = some (.imul, 1, 0, 0, .null) := by decide +kernel
theorem k207_174 : am_cd am_x 207 174 = some (.iload_n 3, 1, 0, 0, .null) := by decide +kernel
theorem k207_175 : am_cd am_x 207 175 = some (.iadd, 1, 0, 0, .null) := by decide +kernel
theorem k207_176 : am_cd am_x 207 176 = some (.iconst 3, 1, 0, 0, .null) := by decide +kernel
theorem k207_177 : am_cd am_x 207 177 = some (.iload 7, 2, 0, 0, .null) := by decide +kernel
theorem k207_179 : am_cd am_x 207 179 = some (.imul, 1, 0, 0, .null) := by decide +kernel
theorem k207_180 : am_cd am_x 207 180 = some (.iadd, 1, 0, 0, .null) := by decide +kernel
theorem k207_181 : am_cd am_x 207 181 = some (.istore 8, 2, 0, 0, .null) := by decide +kernel
theorem k207_183 : am_cd am_x 207 183 = some (.aload_n 0, 1, 0, 0, .null) := by decide +kernel
theorem k207_184 : am_cd am_x 207 184 = some (.aload_n 0, 1, 0, 0, .null) := by decide +kernel
theorem k207_185 : am_cd am_x 207 185 = some (.getfield 47, 3, 8, 29, .null) := by decide +kernel
theorem k207_188 : am_cd am_x 207 188 = some (.iload 8, 2, 0, 0, .null) := by decide +kernel
theorem k207_190 : am_cd am_x 207 190 = some (.iaload, 1, 0, 0, .null) := by decide +kernel
theorem k207_191 : am_cd am_x 207 191 = some (.aload_n 0, 1, 0, 0, .null) := by decide +kernel
theorem k207_192 : am_cd am_x 207 192 = some (.getfield 47, 3, 8, 29, .null) := by decide +kernel
theorem k207_195 : am_cd am_x 207 195 = some (.iload 8, 2, 0, 0, .null) := by decide +kernel
theorem k207_197 : am_cd am_x 207 197 = some (.iconst 1, 1, 0, 0, .null) := by decide +kernel
theorem k207_198 : am_cd am_x 207 198 = some (.iadd, 1, 0, 0, .null) := by decide +kernel
theorem k207_199 : am_cd am_x 207 199 = some (.iaload, 1, 0, 0, .null) := by decide +kernel
theorem k207_200 : am_cd am_x 207 200 = some (.aload_n 0, 1, 0, 0, .null) := by decide +kernel
theorem k207_201 : am_cd am_x 207 201 = some (.getfield 47, 3, 8, 29, .null) := by decide +kernel
theorem k207_204 : am_cd am_x 207 204 = some (.iload 8, 2, 0, 0, .null) := by decide +kernel
theorem k207_206 : am_cd am_x 207 206 = some (.iconst 2, 1, 0, 0, .null) := by decide +kernel
theorem k207_207 : am_cd am_x 207 207 = some (.iadd, 1, 0, 0, .null) := by decide +kernel
theorem k207_208 : am_cd am_x 207 208 = some (.iaload, 1, 0, 0, .null) := by decide +kernel
theorem k207_209 : am_cd am_x 207 209 = some (.invokevirtual 298, 3, 175, 8, .null) := by decide +kernel
theorem k207_212 : am_cd am_x 207 212 = some (.ifCond .ge 40, 3, 252, 0, .null) := by decide +kernel
theorem k207_215 : am_cd am_x 207 215 = some (.iconst 0, 1, 0, 0, .null) := by decide +kernel
theorem k207_216 : am_cd am_x 207 216 = some (.istore 9, 2, 0, 0, .null) := by decide +kernel
theorem k207_218 : am_cd am_x 207 218 = some (.iload 9, 2, 0, 0, .null) := by decide +kernel
theorem k207_220 : am_cd am_x 207 220 = some (.sipush 151, 3, 0, 0, .null) := by decide +kernel
theorem k207_223 : am_cd am_x 207 223 = some (.if_icmp .ge 23, 3, 246, 0, .null) := by decide +kernel
theorem k207_226 : am_cd am_x 207 226 = some (.aload_n 0, 1, 0, 0, .null) := by decide +kernel
theorem k207_227 : am_cd am_x 207 227 = some (.getfield 7, 3, 8, 0, .null) := by decide +kernel
theorem k207_230 : am_cd am_x 207 230 = some (.iload 9, 2, 0, 0, .null) := by decide +kernel
theorem k207_232 : am_cd am_x 207 232 = some (.aload_n 0, 1, 0, 0, .null) := by decide +kernel
theorem k207_233 : am_cd am_x 207 233 = some (.getfield 32, 3, 8, 24, .null) := by decide +kernel
theorem k207_236 : am_cd am_x 207 236 = some (.iload 9, 2, 0, 0, .null) := by decide +kernel
theorem k207_238 : am_cd am_x 207 238 = some (.iaload, 1, 0, 0, .null) := by decide +kernel
theorem k207_239 : am_cd am_x 207 239 = some (.iastore, 1, 0, 0, .null) := by decide +kernel
theorem k207_240 : am_cd am_x 207 240 = some (.iinc 9 1, 3, 0, 0, .null) := by decide +kernel
theorem k207_243 : am_cd am_x 207 243 = some (.goto (-25), 3, 218, 0, .null) := by decide +kernel
theorem k207_246 : am_cd am_x 207 246 = some (.bipush (-20), 2, 0, 0, .null) := by decide +kernel
theorem k207_248 : am_cd am_x 207 248 = some (.iload 7, 2, 0, 0, .null) := by decide +kernel
theorem k207_250 : am_cd am_x 207 250 = some (.isub, 1, 0, 0, .null) := by decide +kernel
theorem k207_251 : am_cd am_x 207 251 = some (.ireturn, 1, 0, 0, .null) := by decide +kernel
theorem k207_252 : am_cd am_x 207 252 = some (.iinc 6 1, 3, 0, 0, .null) := by decide +kernel
theorem k207_255 : am_cd am_x 207 255 = some (.iinc 7 1, 3, 0, 0, .null) := by decide +kernel
theorem k207_258 : am_cd am_x 207 258 = some (.goto (-195), 3, 63, 0, .null) := by decide +kernel
theorem k207_261 : am_cd am_x 207 261 = some (.aload_n 0, 1, 0, 0, .null) := by decide +kernel
theorem k207_262 : am_cd am_x 207 262 = some (.iload 5, 2, 0, 0, .null) := by decide +kernel
theorem k207_264 : am_cd am_x 207 264 = some (.putfield 302, 3, 8, 30, .int 0) := by decide +kernel
theorem k207_267 : am_cd am_x 207 267 = some (.iload 6, 2, 0, 0, .null) := by decide +kernel
theorem k207_269 : am_cd am_x 207 269 = some (.ireturn, 1, 0, 0, .null) := by decide +kernel
theorem k208_0 : am_cd am_x 208 0 = some (.aload_n 0, 1, 0, 0, .null) := by decide +kernel
theorem k208_1 : am_cd am_x 208 1 = some (.getfield 302, 3, 8, 30, .null) := by decide +kernel
theorem k208_4 : am_cd am_x 208 4 = some (.ireturn, 1, 0, 0, .null) := by decide +kernel
theorem k209_0 : am_cd am_x 209 0 = some (.iconst 0, 1, 0, 0, .null) := by decide +kernel
theorem k209_1 : am_cd am_x 209 1 = some (.istore_n 1, 1, 0, 0, .null) := by decide +kernel
theorem k209_2 : am_cd am_x 209 2 = some (.iconst 0, 1, 0, 0, .null) := by decide +kernel
theorem k209_3 : am_cd am_x 209 3 = some (.istore_n 2, 1, 0, 0, .null) := by decide +kernel
theorem k209_4 : am_cd am_x 209 4 = some (.iload_n 2, 1, 0, 0, .null) := by decide +kernel
theorem k209_5 : am_cd am_x 209 5 = some (.aload_n 0, 1, 0, 0, .null) := by decide +kernel
theorem k209_6 : am_cd am_x 209 6 = some (.getfield 7, 3, 8, 0, .null) := by decide +kernel
theorem k209_9 : am_cd am_x 209 9 = some (.iconst 0, 1, 0, 0, .null) := by decide +kernel
theorem k209_10 : am_cd am_x 209 10 = some (.iaload, 1, 0, 0, .null) := by decide +kernel
theorem k209_11 : am_cd am_x 209 11 = some (.if_icmp .ge 56, 3, 67, 0, .null) := by decide +kernel
theorem k209_14 : am_cd am_x 209 14 = some (.iconst 0, 1, 0, 0, .null) := by decide +kernel
theorem k209_15 : am_cd am_x 209 15 = some (.istore_n 3, 1, 0, 0, .null) := by decide +kernel
theorem k209_16 : am_cd am_x 209 16 = some (.iload_n 3, 1, 0, 0, .null) := by decide +kernel
theorem k209_17 : am_cd am_x 209 17 = some (.aload_n 0, 1, 0, 0, .null) := by decide +kernel
theorem k209_18 : am_cd am_x 209 18 = some (.getfield 7, 3, 8, 0, .null) := by decide +kernel
theorem k209_21 : am_cd am_x 209 21 = some (.iconst 1, 1, 0, 0, .null) := by decide +kernel
theorem k209_22 : am_cd am_x 209 22 = some (.iaload, 1, 0, 0, .null) := by decide +kernel
theorem k209_23 : am_cd am_x 209 23 = some (.if_icmp .ge 38, 3, 61, 0, .null) := by decide +kernel
theorem k209_26 : am_cd am_x 209 26 = some (.iload_n 1, 1, 0, 0, .null) := by decide +kernel
theorem k209_27 : am_cd am_x 209 27 = some (.aload_n 0, 1, 0, 0, .null) := by decide +kernel
theorem k209_28 : am_cd am_x 209 28 = some (.getfield 7, 3, 8, 0, .null) := by decide +kernel
theorem k209_31 : am_cd am_x 209 31 = some (.bipush 71, 2, 0, 0, .null) := by decide +kernel
theorem k209_33 : am_cd am_x 209 33 = some (.bipush 8, 2, 0, 0, .null) := by decide +kernel
theorem k209_35 : am_cd am_x 209 35 = some (.iload_n 2, 1, 0, 0, .null) := by decide +kernel
theorem k209_36 : am_cd am_x 209 36 = some (.imul, 1, 0, 0, .null) := by decide +kernel
theorem k209_37 : am_cd am_x 209 37 = some (.iadd, 1, 0, 0, .null) := by decide +kernel
theorem k209_38 : am_cd am_x 209 38 = some (.iload_n 3, 1, 0, 0, .null) := by decide +kernel
theorem k209_39 : am_cd am_x 209 39 = some (.iadd, 1, 0, 0, .null) := by decide +kernel
theorem k209_40 : am_cd am_x 209 40 = some (.iaload, 1, 0, 0, .null) := by decide +kernel
theorem k209_41 : am_cd am_x 209 41 = some (.iconst 2, 1, 0, 0, .null) := by decide +kernel
theorem k209_42 : am_cd am_x 209 42 = some (.if_icmp .eq 7, 3, 49, 0, .null) := by decide +kernel
theorem k209_45 : am_cd am_x 209 45 = some (.iconst 1, 1, 0, 0, .null) := by decide +kernel
theorem k209_46 : am_cd am_x 209 46 = some (.goto 4, 3, 50, 0, .null) := by decide +kernel
theorem k209_49 : am_cd am_x 209 49 = some (.iconst 0, 1, 0, 0, .null) := by decide +kernel
theorem k209_50 : am_cd am_x 209 50 = some (.invokestatic 188, 3, 126, 0, .null) := by decide +kernel
theorem k209_53 : am_cd am_x 209 53 = some (.iadd, 1, 0, 0, .null) := by decide +kernel
theorem k209_54 : am_cd am_x 209 54 = some (.istore_n 1, 1, 0, 0, .null) := by decide +kernel
theorem k209_55 : am_cd am_x 209 55 = some (.iinc 3 1, 3, 0, 0, .null) := by decide +kernel
theorem k209_58 : am_cd am_x 209 58 = some (.goto (-42), 3, 16, 0, .null) := by decide +kernel
theorem k209_61 : am_cd am_x 209 61 = some (.iinc 2 1, 3, 0, 0, .null) := by decide +kernel
theorem k209_64 : am_cd am_x 209 64 = some (.goto (-60), 3, 4, 0, .null) := by decide +kernel
theorem k209_67 : am_cd am_x 209 67 = some (.iload_n 1, 1, 0, 0, .null) := by decide +kernel
theorem k209_68 : am_cd am_x 209 68 = some (.ireturn, 1, 0, 0, .null) := by decide +kernel
theorem k210_0 : am_cd am_x 210 0 = some (.iconst 0, 1, 0, 0, .null) := by decide +kernel
theorem k210_1 : am_cd am_x 210 1 = some (.istore_n 1, 1, 0, 0, .null) := by decide +kernel
theorem k210_2 : am_cd am_x 210 2 = some (.iconst 0, 1, 0, 0, .null) := by decide +kernel
theorem k210_3 : am_cd am_x 210 3 = some (.istore_n 2, 1, 0, 0, .null) := by decide +kernel
theorem k210_4 : am_cd am_x 210 4 = some (.iload_n 2, 1, 0, 0, .null) := by decide +kernel
theorem k210_5 : am_cd am_x 210 5 = some (.aload_n 0, 1, 0, 0, .null) := by decide +kernel
theorem k210_6 : am_cd am_x 210 6 = some (.getfield 7, 3, 8, 0, .null) := by decide +kernel
theorem k210_9 : am_cd am_x 210 9 = some (.iconst 0, 1, 0, 0, .null) := by decide +kernel
theorem k210_10 : am_cd am_x 210 10 = some (.iaload, 1, 0, 0, .null) := by decide +kernel
theorem k210_11 : am_cd am_x 210 11 = some (.if_icmp .ge 25, 3, 36, 0, .null) := by decide +kernel
theorem k210_14 : am_cd am_x 210 14 = some (.iload_n 1, 1, 0, 0, .null) := by decide +kernel
theorem k210_15 : am_cd am_x 210 15 = some (.aload_n 0, 1, 0, 0, .null) := by decide +kernel
theorem k210_16 : am_cd am_x 210 16 = some (.getfield 7, 3, 8, 0, .null) := by decide +kernel
theorem k210_19 : am_cd am_x 210 19 = some (.sipush 135, 3, 0, 0, .null) := by decide +kernel
theorem k210_22 : am_cd am_x 210 22 = some (.iload_n 2, 1, 0, 0, .null) := by decide +kernel
theorem k210_23 : am_cd am_x 210 23 = some (.iadd, 1, 0, 0, .null) := by decide +kernel
theorem k210_24 : am_cd am_x 210 24 = some (.iaload, 1, 0, 0, .null) := by decide +kernel
theorem k210_25 : am_cd am_x 210 25 = some (.invokestatic 205, 3, 128, 0, .null) := by decide +kernel
theorem k210_28 : am_cd am_x 210 28 = some (.iadd, 1, 0, 0, .null) := by decide +kernel
theorem k210_29 : am_cd am_x 210 29 = some (.istore_n 1, 1, 0, 0, .null) := by decide +kernel
theorem k210_30 : am_cd am_x 210 30 = some (.iinc 2 1, 3, 0, 0, .null) := by decide +kernel
theorem k210_33 : am_cd am_x 210 33 = some (.goto (-29), 3, 4, 0, .null) := by decide +kernel
theorem k210_36 : am_cd am_x 210 36 = some (.iload_n 1, 1, 0, 0, .null) := by decide +kernel
theorem k210_37 : am_cd am_x 210 37 = some (.ireturn, 1, 0, 0, .null) := by decide +kernel
theorem k211_0 : am_cd am_x 211 0 = some (.iload_n 1, 1, 0, 0, .null) := by decide +kernel
theorem k211_1 : am_cd am_x 211 1 = some (.tableswitch 103 0 5 #[39, 59, 65, 70, 93, 98], 39, 0, 0, .null) := by decide +kernel
theorem k211_40 : am_cd am_x 211 40 = some (.aload_n 0, 1, 0, 0, .null) := by decide +kernel
theorem k211_41 : am_cd am_x 211 41 = some (.getfield 16, 3, 8, 2, .null) := by decide +kernel
theorem k211_44 : am_cd am_x 211 44 = some (.iconst 0, 1, 0, 0, .null) := by decide +kernel
theorem k211_45 : am_cd am_x 211 45 = some (.baload, 1, 0, 0, .null) := by decide +kernel
theorem k211_46 : am_cd am_x 211 46 = some (.invokestatic 188, 3, 126, 0, .null) := by decide +kernel
theorem k211_49 : am_cd am_x 211 49 = some (.aload_n 0, 1, 0, 0, .null) := by decide +kernel
theorem k211_50 : am_cd am_x 211 50 = some (.getfield 16, 3, 8, 2, .null) := by decide +kernel
theorem k211_53 : am_cd am_x 211 53 = some (.iconst 1, 1, 0, 0, .null) := by decide +kernel
theorem k211_54 : am_cd am_x 211 54 = some (.baload, 1, 0, 0, .null) := by decide +kernel
theorem k211_55 : am_cd am_x 211 55 = some (.invokestatic 188, 3, 126, 0, .null) := by decide +kernel
theorem k211_58 : am_cd am_x 211 58 = some (.iadd, 1, 0, 0, .null) := by decide +kernel
theorem k211_59 : am_cd am_x 211 59 = some (.ireturn, 1, 0, 0, .null) := by decide +kernel
theorem k211_60 : am_cd am_x 211 60 = some (.aload_n 0, 1, 0, 0, .null) := by decide +kernel
theorem k211_61 : am_cd am_x 211 61 = some (.iconst 1, 1, 0, 0, .null) := by decide +kernel
theorem k211_62 : am_cd am_x 211 62 = some (.invokevirtual 194, 3, 157, 8, .null) := by decide +kernel
theorem k211_65 : am_cd am_x 211 65 = some (.ireturn, 1, 0, 0, .null) := by decide +kernel
theorem k211_66 : am_cd am_x 211 66 = some (.aload_n 0, 1, 0, 0, .null) := by decide +kernel
theorem k211_67 : am_cd am_x 211 67 = some (.getfield 94, 3, 8, 12, .null) := by decide +kernel
theorem k211_70 : am_cd am_x 211 70 = some (.ireturn, 1, 0, 0, .null) := by decide +kernel
theorem k211_71 : am_cd am_x 211 71 = some (.aload_n 0, 1, 0, 0, .null) := by decide +kernel
theorem k211_72 : am_cd am_x 211 72 = some (.getfield 41, 3, 8, 27, .null) := by decide +kernel
theorem k211_75 : am_cd am_x 211 75 = some (.iconst 0, 1, 0, 0, .null) := by decide +kernel
theorem k211_76 : am_cd am_x 211 76 = some (.iaload, 1, 0, 0, .null) := by decide +kernel
theorem k211_77 : am_cd am_x 211 77 = some (.bipush (-4), 2, 0, 0, .null) := by decide +kernel
theorem k211_79 : am_cd am_x 211 79 = some (.if_icmp .ne 8, 3, 87, 0, .null) := by decide +kernel
theorem k211_82 : am_cd am_x 211 82 = some (.bipush (-4), 2, 0, 0, .null) := by decide +kernel
theorem k211_84 : am_cd am_x 211 84 = some (.goto 9, 3, 93, 0, .null) := by decide +kernel
theorem k211_87 : am_cd am_x 211 87 = some (.aload_n 0, 1, 0, 0, .null) := by decide +kernel
theorem k211_88 : am_cd am_x 211 88 = some (.getfield 44, 3, 8, 28, .null) := by decide +kernel
theorem k211_91 : am_cd am_x 211 91 = some (.iconst 0, 1, 0, 0, .null) := by decide +kernel
theorem k211_92 : am_cd am_x 211 92 = some (.iaload, 1, 0, 0, .null) := by decide +kernel
theorem k211_93 : am_cd am_x 211 93 = some (.ireturn, 1, 0, 0, .null) := by decide +kernel
theorem k211_94 : am_cd am_x 211 94 = some (.aload_n 0, 1, 0, 0, .null) := by decide +kernel
theorem k211_95 : am_cd am_x 211 95 = some (.invokevirtual 305, 3, 209, 8, .null) := by decide +kernel
theorem k211_98 : am_cd am_x 211 98 = some (.ireturn, 1, 0, 0, .null) := by decide +kernel
theorem k211_99 : am_cd am_x 211 99 = some (.aload_n 0, 1, 0, 0, .null) := by decide +kernel
theorem k211_100 : am_cd am_x 211 100 = some (.invokevirtual 308, 3, 210, 8, .null) := by decide +kernel
theorem k211_103 : am_cd am_x 211 103 = some (.ireturn, 1, 0, 0, .null) := by decide +kernel
theorem k211_104 : am_cd am_x 211 104 = some (.iconst (-1), 1, 0, 0, .null) := by decide +kernel
theorem k211_105 : am_cd am_x 211 105 = some (.ireturn, 1, 0, 0, .null) := by decide +kernel
theorem k212_0 : am_cd am_x 212 0 = some (.iload_n 0, 1, 0, 0, .null) := by decide +kernel
theorem k212_1 : am_cd am_x 212 1 = some (.iload_n 0, 1, 0, 0, .null) := by decide +kernel
theorem k212_2 : am_cd am_x 212 2 = some (.iconst 1, 1, 0, 0, .null) := by decide +kernel
theorem k212_3 : am_cd am_x 212 3 = some (.iushr, 1, 0, 0, .null) := by decide +kernel
theorem k212_4 : am_cd am_x 212 4 = some (.ldc_w 265, 3, 0, 0, .int 1431655765) := by decide +kernel
theorem k212_7 : am_cd am_x 212 7 = some (.iand, 1, 0, 0, .null) := by decide +kernel
theorem k212_8 : am_cd am_x 212 8 = some (.isub, 1, 0, 0, .null) := by decide +kernel
theorem k212_9 : am_cd am_x 212 9 = some (.istore_n 0, 1, 0, 0, .null) := by decide +kernel
theorem k212_10 : am_cd am_x 212 10 = some (.iload_n 0, 1, 0, 0, .null) := by decide +kernel
theorem k212_11 : am_cd am_x 212 11 = some (.ldc_w 266, 3, 0, 0, .int 858993459) := by decide +kernel
theorem k212_14 : am_cd am_x 212 14 = some (.iand, 1, 0, 0, .null) := by decide +kernel
theorem k212_15 : am_cd am_x 212 15 = some (.iload_n 0, 1, 0, 0, .null) := by decide +kernel
theorem k212_16 : am_cd am_x 212 16 = some (.iconst 2, 1, 0, 0, .null) := by decide +kernel
theorem k212_17 : am_cd am_x 212 17 = some (.iushr, 1, 0, 0, .null) := by decide +kernel
theorem k212_18 : am_cd am_x 212 18 = some (.ldc_w 266, 3, 0, 0, .int 858993459) := by decide +kernel
theorem k212_21 : am_cd am_x 212 21 = some (.iand, 1, 0, 0, .null) := by decide +kernel
theorem k212_22 : am_cd am_x 212 22 = some (.iadd, 1, 0, 0, .null) := by decide +kernel
theorem k212_23 : am_cd am_x 212 23 = some (.istore_n 0, 1, 0, 0, .null) := by decide +kernel
theorem k212_24 : am_cd am_x 212 24 = some (.iload_n 0, 1, 0, 0, .null) := by decide +kernel
theorem k212_25 : am_cd am_x 212 25 = some (.iload_n 0, 1, 0, 0, .null) := by decide +kernel
theorem k212_26 : am_cd am_x 212 26 = some (.iconst 4, 1, 0, 0, .null) := by decide +kernel
theorem k212_27 : am_cd am_x 212 27 = some (.iushr, 1, 0, 0, .null) := by decide +kernel
theorem k212_28 : am_cd am_x 212 28 = some (.iadd, 1, 0, 0, .null) := by decide +kernel
theorem k212_29 : am_cd am_x 212 29 = some (.ldc_w 267, 3, 0, 0, .int 252645135) := by decide +kernel
theorem k212_32 : am_cd am_x 212 32 = some (.iand, 1, 0, 0, .null) := by decide +kernel
theorem k212_33 : am_cd am_x 212 33 = some (.istore_n 0, 1, 0, 0, .null) := by decide +kernel
theorem k212_34 : am_cd am_x 212 34 = some (.iload_n 0, 1, 0, 0, .null) := by decide +kernel
theorem k212_35 : am_cd am_x 212 35 = some (.iload_n 0, 1, 0, 0, .null) := by decide +kernel
theorem k212_36 : am_cd am_x 212 36 = some (.bipush 8, 2, 0, 0, .null) := by decide +kernel
theorem k212_38 : am_cd am_x 212 38 = some (.iushr, 1, 0, 0, .null) := by decide +kernel
theorem k212_39 : am_cd am_x 212 39 = some (.iadd, 1, 0, 0, .null) := by decide +kernel
theorem k212_40 : am_cd am_x 212 40 = some (.istore_n 0, 1, 0, 0, .null) := by decide +kernel
theorem k212_41 : am_cd am_x 212 41 = some (.iload_n 0, 1, 0, 0, .null) := by decide +kernel
theorem k212_42 : am_cd am_x 212 42 = some (.iload_n 0, 1, 0, 0, .null) := by decide +kernel
theorem k212_43 : am_cd am_x 212 43 = some (.bipush 16, 2, 0, 0, .null) := by decide +kernel
theorem k212_45 : am_cd am_x 212 45 = some (.iushr, 1, 0, 0, .null) := by decide +kernel
theorem k212_46 : am_cd am_x 212 46 = some (.iadd, 1, 0, 0, .null) := by decide +kernel
theorem k212_47 : am_cd am_x 212 47 = some (.istore_n 0, 1, 0, 0, .null) := by decide +kernel
theorem k212_48 : am_cd am_x 212 48 = some (.iload_n 0, 1, 0, 0, .null) := by decide +kernel
theorem k212_49 : am_cd am_x 212 49 = some (.bipush 63, 2, 0, 0, .null) := by decide +kernel
theorem k212_51 : am_cd am_x 212 51 = some (.iand, 1, 0, 0, .null) := by decide +kernel
theorem k212_52 : am_cd am_x 212 52 = some (.ireturn, 1, 0, 0, .null) := by decide +kernel
theorem k213_0 : am_cd am_x 213 0 = some (.aload_n 0, 1, 0, 0, .null) := by decide +kernel
theorem k213_1 : am_cd am_x 213 1 = some (.getfield 9, 3, 100, 0, .null) := by decide +kernel
theorem k213_4 : am_cd am_x 213 4 = some (.arraylength, 1, 0, 0, .null) := by decide +kernel
theorem k213_5 : am_cd am_x 213 5 = some (.aload_n 0, 1, 0, 0, .null) := by decide +kernel
theorem k213_6 : am_cd am_x 213 6 = some (.invokevirtual 335, 3, 215, 100, .null) := by decide +kernel
theorem k213_9 : am_cd am_x 213 9 = some (.ishr, 1, 0, 0, .null) := by decide +kernel
theorem k213_10 : am_cd am_x 213 10 = some (.ireturn, 1, 0, 0, .null) := by decide +kernel
theorem k214_0 : am_cd am_x 214 0 = some (.aload_n 0, 1, 0, 0, .null) := by decide +kernel
theorem k214_1 : am_cd am_x 214 1 = some (.invokevirtual 492, 3, 216, 100, .null) := by decide +kernel
theorem k214_4 : am_cd am_x 214 4 = some (.ifCond .eq 12, 3, 16, 0, .null) := by decide +kernel
theorem k214_7 : am_cd am_x 214 7 = some (.aload_n 0, 1, 0, 0, .null) := by decide +kernel
theorem k214_8 : am_cd am_x 214 8 = some (.getfield 9, 3, 100, 0, .null) := by decide +kernel
theorem k214_11 : am_cd am_x 214 11 = some (.iload_n 1, 1, 0, 0, .null) := by decide +kernel
theorem k214_12 : am_cd am_x 214 12 = some (.invokestatic 495, 3, 218, 0, .null) := by decide +kernel
theorem k214_15 : am_cd am_x 214 15 = some (.ireturn, 1, 0, 0, .null) := by decide +kernel
theorem k215_0 : am_cd am_x 215 0 = some (.getstatic 38, 3, 0, 0, .int 1) := by decide +kernel
theorem k215_3 : am_cd am_x 215 3 = some (.ifCond .eq 10, 3, 13, 0, .null) := by decide +kernel
theorem k215_6 : am_cd am_x 215 6 = some (.aload_n 0, 1, 0, 0, .null) := by decide +kernel
theorem k215_7 : am_cd am_x 215 7 = some (.getfield 15, 3, 100, 1, .null) := by decide +kernel
theorem k215_10 : am_cd am_x 215 10 = some (.goto 4, 3, 14, 0, .null) := by decide +kernel
theorem k215_14 : am_cd am_x 215 14 = some (.ireturn, 1, 0, 0, .null) := by decide +kernel
theorem k216_0 : am_cd am_x 216 0 = some (.getstatic 38, 3, 0, 0, .int 1) := by decide +kernel
theorem k216_3 : am_cd am_x 216 3 = some (.ifCond .eq 14, 3, 17, 0, .null) := by decide +kernel
theorem k216_6 : am_cd am_x 216 6 = some (.aload_n 0, 1, 0, 0, .null) := by decide +kernel
theorem k216_7 : am_cd am_x 216 7 = some (.getfield 15, 3, 100, 1, .null) := by decide +kernel
theorem k216_10 : am_cd am_x 216 10 = some (.ifCond .ne 7, 3, 17, 0, .null) := by decide +kernel
theorem k216_13 : am_cd am_x 216 13 = some (.iconst 1, 1, 0, 0, .null) := by decide +kernel
theorem k216_14 : am_cd am_x 216 14 = some (.goto 4, 3, 18, 0, .null) := by decide +kernel
theorem k216_18 : am_cd am_x 216 18 = some (.ireturn, 1, 0, 0, .null) := by decide +kernel
theorem k217_0 : am_cd am_x 217 0 = some (.iload_n 0, 1, 0, 0, .null) := by decide +kernel
theorem k217_1 : am_cd am_x 217 1 = some (.iload_n 1, 1, 0, 0, .null) := by decide +kernel
theorem k217_2 : am_cd am_x 217 2 = some (.getstatic 1053, 3, 0, 0, .ref 1200) := by decide +kernel
theorem k217_5 : am_cd am_x 217 5 = some (.invokestatic 1059, 3, 220, 0, .null) := by decide +kernel
theorem k217_8 : am_cd am_x 217 8 = some (.pop, 1, 0, 0, .null) := by decide +kernel
theorem k217_9 : am_cd am_x 217 9 = some (.return_, 1, 0, 0, .null) := by decide +kernel
theorem k218_0 : am_cd am_x 218 0 = some (.iload_n 1, 1, 0, 0, .null) := by decide +kernel
theorem k218_1 : am_cd am_x 218 1 = some (.aload_n 0, 1, 0, 0, .null) := by decide +kernel
theorem k218_2 : am_cd am_x 218 2 = some (.arraylength, 1, 0, 0, .null) := by decide +kernel
theorem k218_3 : am_cd am_x 218 3 = some (.invokestatic 9, 3, 217, 0, .null) := by decide +kernel
theorem k218_6 : am_cd am_x 218 6 = some (.aload_n 0, 1, 0, 0, .null) := by decide +kernel
theorem k218_7 : am_cd am_x 218 7 = some (.iload_n 1, 1, 0, 0, .null) := by decide +kernel
theorem k218_8 : am_cd am_x 218 8 = some (.baload, 1, 0, 0, .null) := by decide +kernel
theorem k218_9 : am_cd am_x 218 9 = some (.sipush 255, 3, 0, 0, .null) := by decide +kernel
theorem k218_12 : am_cd am_x 218 12 = some (.iand, 1, 0, 0, .null) := by decide +kernel
theorem k218_13 : am_cd am_x 218 13 = some (.i2c, 1, 0, 0, .null) := by decide +kernel
theorem k218_14 : am_cd am_x 218 14 = some (.ireturn, 1, 0, 0, .null) := by decide +kernel
theorem k219_0 : am_cd am_x 219 0 = some (.iconst 0, 1, 0, 0, .null) := by decide +kernel
theorem k219_1 : am_cd am_x 219 1 = some (.istore_n 2, 1, 0, 0, .null) := by decide +kernel
theorem k219_2 : am_cd am_x 219 2 = some (.aload_n 0, 1, 0, 0, .null) := by decide +kernel
theorem k219_3 : am_cd am_x 219 3 = some (.arraylength, 1, 0, 0, .null) := by decide +kernel
theorem k219_4 : am_cd am_x 219 4 = some (.istore_n 3, 1, 0, 0, .null) := by decide +kernel
theorem k219_5 : am_cd am_x 219 5 = some (.iload_n 2, 1, 0, 0, .null) := by decide +kernel
theorem k219_6 : am_cd am_x 219 6 = some (.iload_n 3, 1, 0, 0, .null) := by decide +kernel
theorem k219_7 : am_cd am_x 219 7 = some (.if_icmp .ge 13, 3, 20, 0, .null) := by decide +kernel
theorem k219_10 : am_cd am_x 219 10 = some (.aload_n 0, 1, 0, 0, .null) := by decide +kernel
theorem k219_11 : am_cd am_x 219 11 = some (.iload_n 2, 1, 0, 0, .null) := by decide +kernel
theorem k219_12 : am_cd am_x 219 12 = some (.iload_n 1, 1, 0, 0, .null) := by decide +kernel
theorem k219_13 : am_cd am_x 219 13 = some (.iastore, 1, 0, 0, .null) := by decide +kernel
theorem k219_14 : am_cd am_x 219 14 = some (.iinc 2 1, 3, 0, 0, .null) := by decide +kernel
theorem k219_17 : am_cd am_x 219 17 = some (.goto (-12), 3, 5, 0, .null) := by decide +kernel
theorem k219_20 : am_cd am_x 219 20 = some (.return_, 1, 0, 0, .null) := by decide +kernel
theorem k220_0 : am_cd am_x 220 0 = some (.iload_n 0, 1, 0, 0, .null) := by decide +kernel
theorem k220_1 : am_cd am_x 220 1 = some (.ifCond .lt 8, 3, 9, 0, .null) := by decide +kernel
theorem k220_4 : am_cd am_x 220 4 = some (.iload_n 0, 1, 0, 0, .null) := by decide +kernel
theorem k220_5 : am_cd am_x 220 5 = some (.iload_n 1, 1, 0, 0, .null) := by decide +kernel
theorem k220_6 : am_cd am_x 220 6 = some (.if_icmp .lt 10, 3, 16, 0, .null) := by decide +kernel
theorem k220_9 : am_cd am_x 220 9 = some (.aload_n 2, 1, 0, 0, .null) := by decide +kernel
theorem k220_10 : am_cd am_x 220 10 = some (.iload_n 0, 1, 0, 0, .null) := by decide +kernel
theorem k220_11 : am_cd am_x 220 11 = some (.iload_n 1, 1, 0, 0, .null) := by decide +kernel
theorem k220_16 : am_cd am_x 220 16 = some (.iload_n 0, 1, 0, 0, .null) := by decide +kernel
theorem k220_17 : am_cd am_x 220 17 = some (.ireturn, 1, 0, 0, .null) := by decide +kernel
