/-! FACTS: instructions by their places, on -/
theorem k60_0 : am_cd am_x 60 0 = some (.aload_n 0, 1, 0, 0, .null) := by decide +kernel
theorem k60_1 : am_cd am_x 60 1 = some (.getfield 9, 3, 5, 0, .null) := by decide +kernel
theorem k60_4 : am_cd am_x 60 4 = some (.iload_n 1, 1, 0, 0, .null) := by decide +kernel
theorem k60_5 : am_cd am_x 60 5 = some (.baload, 1, 0, 0, .null) := by decide +kernel
theorem k60_6 : am_cd am_x 60 6 = some (.bipush 97, 2, 0, 0, .null) := by decide +kernel
theorem k60_8 : am_cd am_x 60 8 = some (.if_icmp .lt 18, 3, 26, 0, .null) := by decide +kernel
theorem k60_11 : am_cd am_x 60 11 = some (.aload_n 0, 1, 0, 0, .null) := by decide +kernel
theorem k60_12 : am_cd am_x 60 12 = some (.getfield 9, 3, 5, 0, .null) := by decide +kernel
theorem k60_15 : am_cd am_x 60 15 = some (.iload_n 1, 1, 0, 0, .null) := by decide +kernel
theorem k60_16 : am_cd am_x 60 16 = some (.baload, 1, 0, 0, .null) := by decide +kernel
theorem k60_17 : am_cd am_x 60 17 = some (.bipush 122, 2, 0, 0, .null) := by decide +kernel
theorem k60_19 : am_cd am_x 60 19 = some (.if_icmp .gt 7, 3, 26, 0, .null) := by decide +kernel
theorem k60_22 : am_cd am_x 60 22 = some (.iconst 1, 1, 0, 0, .null) := by decide +kernel
theorem k60_23 : am_cd am_x 60 23 = some (.goto 4, 3, 27, 0, .null) := by decide +kernel
theorem k60_26 : am_cd am_x 60 26 = some (.iconst 0, 1, 0, 0, .null) := by decide +kernel
theorem k60_27 : am_cd am_x 60 27 = some (.ireturn, 1, 0, 0, .null) := by decide +kernel
theorem k61_0 : am_cd am_x 61 0 = some (.aload_n 0, 1, 0, 0, .null) := by decide +kernel
theorem k61_1 : am_cd am_x 61 1 = some (.getfield 9, 3, 5, 0, .null) := by decide +kernel
theorem k61_4 : am_cd am_x 61 4 = some (.iload_n 1, 1, 0, 0, .null) := by decide +kernel
theorem k61_5 : am_cd am_x 61 5 = some (.baload, 1, 0, 0, .null) := by decide +kernel
theorem k61_6 : am_cd am_x 61 6 = some (.bipush 48, 2, 0, 0, .null) := by decide +kernel
theorem k61_8 : am_cd am_x 61 8 = some (.if_icmp .lt 18, 3, 26, 0, .null) := by decide +kernel
theorem k61_11 : am_cd am_x 61 11 = some (.aload_n 0, 1, 0, 0, .null) := by decide +kernel
theorem k61_12 : am_cd am_x 61 12 = some (.getfield 9, 3, 5, 0, .null) := by decide +kernel
theorem k61_15 : am_cd am_x 61 15 = some (.iload_n 1, 1, 0, 0, .null) := by decide +kernel
theorem k61_16 : am_cd am_x 61 16 = some (.baload, 1, 0, 0, .null) := by decide +kernel
theorem k61_17 : am_cd am_x 61 17 = some (.bipush 57, 2, 0, 0, .null) := by decide +kernel
theorem k61_19 : am_cd am_x 61 19 = some (.if_icmp .gt 7, 3, 26, 0, .null) := by decide +kernel
theorem k61_22 : am_cd am_x 61 22 = some (.iconst 1, 1, 0, 0, .null) := by decide +kernel
theorem k61_23 : am_cd am_x 61 23 = some (.goto 4, 3, 27, 0, .null) := by decide +kernel
theorem k61_26 : am_cd am_x 61 26 = some (.iconst 0, 1, 0, 0, .null) := by decide +kernel
theorem k61_27 : am_cd am_x 61 27 = some (.ireturn, 1, 0, 0, .null) := by decide +kernel
theorem k62_0 : am_cd am_x 62 0 = some (.aload_n 0, 1, 0, 0, .null) := by decide +kernel
theorem k62_1 : am_cd am_x 62 1 = some (.iconst 1, 1, 0, 0, .null) := by decide +kernel
theorem k62_2 : am_cd am_x 62 2 = some (.putfield 28, 3, 5, 3, .int 0) := by decide +kernel
theorem k62_5 : am_cd am_x 62 5 = some (.aload_n 0, 1, 0, 0, .null) := by decide +kernel
theorem k62_6 : am_cd am_x 62 6 = some (.getfield 19, 3, 5, 2, .null) := by decide +kernel
theorem k62_9 : am_cd am_x 62 9 = some (.aload_n 0, 1, 0, 0, .null) := by decide +kernel
theorem k62_10 : am_cd am_x 62 10 = some (.getfield 15, 3, 5, 1, .null) := by decide +kernel
theorem k62_13 : am_cd am_x 62 13 = some (.if_icmp .ge 27, 3, 40, 0, .null) := by decide +kernel
theorem k62_16 : am_cd am_x 62 16 = some (.aload_n 0, 1, 0, 0, .null) := by decide +kernel
theorem k62_17 : am_cd am_x 62 17 = some (.aload_n 0, 1, 0, 0, .null) := by decide +kernel
theorem k62_18 : am_cd am_x 62 18 = some (.getfield 19, 3, 5, 2, .null) := by decide +kernel
theorem k62_21 : am_cd am_x 62 21 = some (.invokevirtual 31, 3, 60, 5, .null) := by decide +kernel
theorem k62_24 : am_cd am_x 62 24 = some (.ifCond .eq 16, 3, 40, 0, .null) := by decide +kernel
theorem k62_27 : am_cd am_x 62 27 = some (.aload_n 0, 1, 0, 0, .null) := by decide +kernel
theorem k62_28 : am_cd am_x 62 28 = some (.dup, 1, 0, 0, .null) := by decide +kernel
theorem k62_29 : am_cd am_x 62 29 = some (.getfield 19, 3, 5, 2, .null) := by decide +kernel
theorem k62_32 : am_cd am_x 62 32 = some (.iconst 1, 1, 0, 0, .null) := by decide +kernel
theorem k62_33 : am_cd am_x 62 33 = some (.iadd, 1, 0, 0, .null) := by decide +kernel
theorem k62_34 : am_cd am_x 62 34 = some (.putfield 19, 3, 5, 2, .int 0) := by decide +kernel
theorem k62_37 : am_cd am_x 62 37 = some (.goto (-32), 3, 5, 0, .null) := by decide +kernel
theorem k62_40 : am_cd am_x 62 40 = some (.return_, 1, 0, 0, .null) := by decide +kernel
theorem k63_0 : am_cd am_x 63 0 = some (.aload_n 0, 1, 0, 0, .null) := by decide +kernel
theorem k63_1 : am_cd am_x 63 1 = some (.iconst 0, 1, 0, 0, .null) := by decide +kernel
theorem k63_2 : am_cd am_x 63 2 = some (.putfield 44, 3, 5, 5, .int 0) := by decide +kernel
theorem k63_5 : am_cd am_x 63 5 = some (.aload_n 0, 1, 0, 0, .null) := by decide +kernel
theorem k63_6 : am_cd am_x 63 6 = some (.getfield 19, 3, 5, 2, .null) := by decide +kernel
theorem k63_9 : am_cd am_x 63 9 = some (.aload_n 0, 1, 0, 0, .null) := by decide +kernel
theorem k63_10 : am_cd am_x 63 10 = some (.getfield 15, 3, 5, 1, .null) := by decide +kernel
theorem k63_13 : am_cd am_x 63 13 = some (.if_icmp .ge 64, 3, 77, 0, .null) := by decide +kernel
theorem k63_16 : am_cd am_x 63 16 = some (.aload_n 0, 1, 0, 0, .null) := by decide +kernel
theorem k63_17 : am_cd am_x 63 17 = some (.aload_n 0, 1, 0, 0, .null) := by decide +kernel
theorem k63_18 : am_cd am_x 63 18 = some (.getfield 19, 3, 5, 2, .null) := by decide +kernel
theorem k63_21 : am_cd am_x 63 21 = some (.invokevirtual 38, 3, 61, 5, .null) := by decide +kernel
theorem k63_24 : am_cd am_x 63 24 = some (.ifCond .eq 53, 3, 77, 0, .null) := by decide +kernel
theorem k63_27 : am_cd am_x 63 27 = some (.aload_n 0, 1, 0, 0, .null) := by decide +kernel
theorem k63_28 : am_cd am_x 63 28 = some (.getfield 19, 3, 5, 2, .null) := by decide +kernel
theorem k63_31 : am_cd am_x 63 31 = some (.aload_n 0, 1, 0, 0, .null) := by decide +kernel
theorem k63_32 : am_cd am_x 63 32 = some (.getfield 25, 3, 5, 4, .null) := by decide +kernel
theorem k63_35 : am_cd am_x 63 35 = some (.isub, 1, 0, 0, .null) := by decide +kernel
theorem k63_36 : am_cd am_x 63 36 = some (.iconst 4, 1, 0, 0, .null) := by decide +kernel
theorem k63_37 : am_cd am_x 63 37 = some (.if_icmp .ge 27, 3, 64, 0, .null) := by decide +kernel
theorem k63_40 : am_cd am_x 63 40 = some (.aload_n 0, 1, 0, 0, .null) := by decide +kernel
theorem k63_41 : am_cd am_x 63 41 = some (.bipush 10, 2, 0, 0, .null) := by decide +kernel
theorem k63_43 : am_cd am_x 63 43 = some (.aload_n 0, 1, 0, 0, .null) := by decide +kernel
theorem k63_44 : am_cd am_x 63 44 = some (.getfield 44, 3, 5, 5, .null) := by decide +kernel
theorem k63_47 : am_cd am_x 63 47 = some (.imul, 1, 0, 0, .null) := by decide +kernel
theorem k63_48 : am_cd am_x 63 48 = some (.aload_n 0, 1, 0, 0, .null) := by decide +kernel
theorem k63_49 : am_cd am_x 63 49 = some (.getfield 9, 3, 5, 0, .null) := by decide +kernel
theorem k63_52 : am_cd am_x 63 52 = some (.aload_n 0, 1, 0, 0, .null) := by decide +kernel
theorem k63_53 : am_cd am_x 63 53 = some (.getfield 19, 3, 5, 2, .null) := by decide +kernel
theorem k63_56 : am_cd am_x 63 56 = some (.baload, 1, 0, 0, .null) := by decide +kernel
theorem k63_57 : am_cd am_x 63 57 = some (.iadd, 1, 0, 0, .null) := by decide +kernel
theorem k63_58 : am_cd am_x 63 58 = some (.bipush 48, 2, 0, 0, .null) := by decide +kernel
theorem k63_60 : am_cd am_x 63 60 = some (.isub, 1, 0, 0, .null) := by decide +kernel
theorem k63_61 : am_cd am_x 63 61 = some (.putfield 44, 3, 5, 5, .int 0) := by decide +kernel
theorem k63_64 : am_cd am_x 63 64 = some (.aload_n 0, 1, 0, 0, .null) := by decide +kernel
theorem k63_65 : am_cd am_x 63 65 = some (.dup, 1, 0, 0, .null) := by decide +kernel
theorem k63_66 : am_cd am_x 63 66 = some (.getfield 19, 3, 5, 2, .null) := by decide +kernel
theorem k63_69 : am_cd am_x 63 69 = some (.iconst 1, 1, 0, 0, .null) := by decide +kernel
theorem k63_70 : am_cd am_x 63 70 = some (.iadd, 1, 0, 0, .null) := by decide +kernel
theorem k63_71 : am_cd am_x 63 71 = some (.putfield 19, 3, 5, 2, .int 0) := by decide +kernel
theorem k63_74 : am_cd am_x 63 74 = some (.goto (-69), 3, 5, 0, .null) := by decide +kernel
theorem k63_77 : am_cd am_x 63 77 = some (.aload_n 0, 1, 0, 0, .null) := by decide +kernel
theorem k63_78 : am_cd am_x 63 78 = some (.aload_n 0, 1, 0, 0, .null) := by decide +kernel
theorem k63_79 : am_cd am_x 63 79 = some (.getfield 19, 3, 5, 2, .null) := by decide +kernel
theorem k63_82 : am_cd am_x 63 82 = some (.aload_n 0, 1, 0, 0, .null) := by decide +kernel
theorem k63_83 : am_cd am_x 63 83 = some (.getfield 25, 3, 5, 4, .null) := by decide +kernel
theorem k63_86 : am_cd am_x 63 86 = some (.isub, 1, 0, 0, .null) := by decide +kernel
theorem k63_87 : am_cd am_x 63 87 = some (.iconst 4, 1, 0, 0, .null) := by decide +kernel
theorem k63_88 : am_cd am_x 63 88 = some (.if_icmp .le 7, 3, 95, 0, .null) := by decide +kernel
theorem k63_91 : am_cd am_x 63 91 = some (.iconst 0, 1, 0, 0, .null) := by decide +kernel
theorem k63_92 : am_cd am_x 63 92 = some (.goto 4, 3, 96, 0, .null) := by decide +kernel
theorem k63_95 : am_cd am_x 63 95 = some (.iconst 2, 1, 0, 0, .null) := by decide +kernel
theorem k63_96 : am_cd am_x 63 96 = some (.putfield 28, 3, 5, 3, .int 0) := by decide +kernel
theorem k63_99 : am_cd am_x 63 99 = some (.return_, 1, 0, 0, .null) := by decide +kernel
theorem k64_0 : am_cd am_x 64 0 = some (.aload_n 0, 1, 0, 0, .null) := by decide +kernel
theorem k64_1 : am_cd am_x 64 1 = some (.getfield 28, 3, 5, 3, .null) := by decide +kernel
theorem k64_4 : am_cd am_x 64 4 = some (.iconst 1, 1, 0, 0, .null) := by decide +kernel
theorem k64_5 : am_cd am_x 64 5 = some (.if_icmp .ne 19, 3, 24, 0, .null) := by decide +kernel
theorem k64_8 : am_cd am_x 64 8 = some (.aload_n 0, 1, 0, 0, .null) := by decide +kernel
theorem k64_9 : am_cd am_x 64 9 = some (.getfield 19, 3, 5, 2, .null) := by decide +kernel
theorem k64_12 : am_cd am_x 64 12 = some (.aload_n 0, 1, 0, 0, .null) := by decide +kernel
theorem k64_13 : am_cd am_x 64 13 = some (.getfield 25, 3, 5, 4, .null) := by decide +kernel
theorem k64_16 : am_cd am_x 64 16 = some (.isub, 1, 0, 0, .null) := by decide +kernel
theorem k64_17 : am_cd am_x 64 17 = some (.aload_n 1, 1, 0, 0, .null) := by decide +kernel
theorem k64_18 : am_cd am_x 64 18 = some (.invokevirtual 47, 3, 213, 100, .null) := by decide +kernel
theorem k64_21 : am_cd am_x 64 21 = some (.if_icmp .eq 5, 3, 26, 0, .null) := by decide +kernel
theorem k64_24 : am_cd am_x 64 24 = some (.iconst 0, 1, 0, 0, .null) := by decide +kernel
theorem k64_25 : am_cd am_x 64 25 = some (.ireturn, 1, 0, 0, .null) := by decide +kernel
theorem k64_26 : am_cd am_x 64 26 = some (.iconst 0, 1, 0, 0, .null) := by decide +kernel
theorem k64_27 : am_cd am_x 64 27 = some (.istore_n 2, 1, 0, 0, .null) := by decide +kernel
theorem k64_28 : am_cd am_x 64 28 = some (.iload_n 2, 1, 0, 0, .null) := by decide +kernel
theorem k64_29 : am_cd am_x 64 29 = some (.aload_n 1, 1, 0, 0, .null) := by decide +kernel
theorem k64_30 : am_cd am_x 64 30 = some (.invokevirtual 47, 3, 213, 100, .null) := by decide +kernel
theorem k64_33 : am_cd am_x 64 33 = some (.if_icmp .ge 30, 3, 63, 0, .null) := by decide +kernel
theorem k64_36 : am_cd am_x 64 36 = some (.aload_n 0, 1, 0, 0, .null) := by decide +kernel
theorem k64_37 : am_cd am_x 64 37 = some (.getfield 9, 3, 5, 0, .null) := by decide +kernel
theorem k64_40 : am_cd am_x 64 40 = some (.aload_n 0, 1, 0, 0, .null) := by decide +kernel
theorem k64_41 : am_cd am_x 64 41 = some (.getfield 25, 3, 5, 4, .null) := by decide +kernel
theorem k64_44 : am_cd am_x 64 44 = some (.iload_n 2, 1, 0, 0, .null) := by decide +kernel
theorem k64_45 : am_cd am_x 64 45 = some (.iadd, 1, 0, 0, .null) := by decide +kernel
theorem k64_46 : am_cd am_x 64 46 = some (.baload, 1, 0, 0, .null) := by decide +kernel
theorem k64_47 : am_cd am_x 64 47 = some (.aload_n 1, 1, 0, 0, .null) := by decide +kernel
theorem k64_48 : am_cd am_x 64 48 = some (.iload_n 2, 1, 0, 0, .null) := by decide +kernel
theorem k64_49 : am_cd am_x 64 49 = some (.invokevirtual 52, 3, 214, 100, .null) := by decide +kernel
theorem k64_52 : am_cd am_x 64 52 = some (.if_icmp .eq 5, 3, 57, 0, .null) := by decide +kernel
theorem k64_55 : am_cd am_x 64 55 = some (.iconst 0, 1, 0, 0, .null) := by decide +kernel
theorem k64_56 : am_cd am_x 64 56 = some (.ireturn, 1, 0, 0, .null) := by decide +kernel
theorem k64_57 : am_cd am_x 64 57 = some (.iinc 2 1, 3, 0, 0, .null) := by decide +kernel
theorem k64_60 : am_cd am_x 64 60 = some (.goto (-32), 3, 28, 0, .null) := by decide +kernel
theorem k64_63 : am_cd am_x 64 63 = some (.iconst 1, 1, 0, 0, .null) := by decide +kernel
theorem k64_64 : am_cd am_x 64 64 = some (.ireturn, 1, 0, 0, .null) := by decide +kernel
theorem k66_0 : am_cd am_x 66 0 = some (.aload_n 0, 1, 0, 0, .null) := by decide +kernel
theorem k66_1 : am_cd am_x 66 1 = some (.getfield 21, 3, 6, 1, .null) := by decide +kernel
theorem k66_4 : am_cd am_x 66 4 = some (.invokevirtual 25, 3, 2, 0, .null) := by decide +kernel
theorem k66_7 : am_cd am_x 66 7 = some (.aload_n 0, 1, 0, 0, .null) := by decide +kernel
theorem k66_8 : am_cd am_x 66 8 = some (.iconst 0, 1, 0, 0, .null) := by decide +kernel
theorem k66_9 : am_cd am_x 66 9 = some (.putfield 28, 3, 6, 2, .int 0) := by decide +kernel
theorem k66_12 : am_cd am_x 66 12 = some (.aload_n 0, 1, 0, 0, .null) := by decide +kernel
theorem k66_13 : am_cd am_x 66 13 = some (.iconst 0, 1, 0, 0, .null) := by decide +kernel
theorem k66_14 : am_cd am_x 66 14 = some (.putfield 32, 3, 6, 4, .int 0) := by decide +kernel
theorem k66_17 : am_cd am_x 66 17 = some (.aload_n 0, 1, 0, 0, .null) := by decide +kernel
theorem k66_18 : am_cd am_x 66 18 = some (.iconst 0, 1, 0, 0, .null) := by decide +kernel
theorem k66_19 : am_cd am_x 66 19 = some (.putfield 35, 3, 6, 7, .int 0) := by decide +kernel
theorem k66_22 : am_cd am_x 66 22 = some (.aload_n 0, 1, 0, 0, .null) := by decide +kernel
theorem k66_23 : am_cd am_x 66 23 = some (.iconst 0, 1, 0, 0, .null) := by decide +kernel
theorem k66_24 : am_cd am_x 66 24 = some (.putfield 38, 3, 6, 8, .int 0) := by decide +kernel
theorem k66_27 : am_cd am_x 66 27 = some (.aload_n 0, 1, 0, 0, .null) := by decide +kernel
theorem k66_28 : am_cd am_x 66 28 = some (.iconst 0, 1, 0, 0, .null) := by decide +kernel
theorem k66_29 : am_cd am_x 66 29 = some (.putfield 41, 3, 6, 9, .int 0) := by decide +kernel
theorem k66_32 : am_cd am_x 66 32 = some (.iconst 0, 1, 0, 0, .null) := by decide +kernel
theorem k66_33 : am_cd am_x 66 33 = some (.istore_n 1, 1, 0, 0, .null) := by decide +kernel
theorem k66_34 : am_cd am_x 66 34 = some (.aload_n 0, 1, 0, 0, .null) := by decide +kernel
theorem k66_35 : am_cd am_x 66 35 = some (.getfield 12, 3, 6, 0, .null) := by decide +kernel
theorem k66_38 : am_cd am_x 66 38 = some (.invokevirtual 44, 3, 58, 5, .null) := by decide +kernel
theorem k66_41 : am_cd am_x 66 41 = some (.iload_n 1, 1, 0, 0, .null) := by decide +kernel
theorem k66_42 : am_cd am_x 66 42 = some (.sipush 160, 3, 0, 0, .null) := by decide +kernel
theorem k66_45 : am_cd am_x 66 45 = some (.if_icmp .ge 31, 3, 76, 0, .null) := by decide +kernel
theorem k66_48 : am_cd am_x 66 48 = some (.aload_n 0, 1, 0, 0, .null) := by decide +kernel
theorem k66_49 : am_cd am_x 66 49 = some (.getfield 28, 3, 6, 2, .null) := by decide +kernel
theorem k66_52 : am_cd am_x 66 52 = some (.ifCond .ne 24, 3, 76, 0, .null) := by decide +kernel
theorem k66_55 : am_cd am_x 66 55 = some (.aload_n 0, 1, 0, 0, .null) := by decide +kernel
theorem k66_56 : am_cd am_x 66 56 = some (.getfield 12, 3, 6, 0, .null) := by decide +kernel
theorem k66_59 : am_cd am_x 66 59 = some (.getfield 47, 3, 5, 3, .null) := by decide +kernel
theorem k66_62 : am_cd am_x 66 62 = some (.iconst 4, 1, 0, 0, .null) := by decide +kernel
theorem k66_63 : am_cd am_x 66 63 = some (.if_icmp .eq 13, 3, 76, 0, .null) := by decide +kernel
theorem k66_66 : am_cd am_x 66 66 = some (.aload_n 0, 1, 0, 0, .null) := by decide +kernel
theorem k66_67 : am_cd am_x 66 67 = some (.invokevirtual 50, 3, 68, 6, .null) := by decide +kernel
theorem k66_70 : am_cd am_x 66 70 = some (.iinc 1 1, 3, 0, 0, .null) := by decide +kernel
theorem k66_73 : am_cd am_x 66 73 = some (.goto (-32), 3, 41, 0, .null) := by decide +kernel
theorem k66_76 : am_cd am_x 66 76 = some (.aload_n 0, 1, 0, 0, .null) := by decide +kernel
theorem k66_77 : am_cd am_x 66 77 = some (.getfield 28, 3, 6, 2, .null) := by decide +kernel
theorem k66_80 : am_cd am_x 66 80 = some (.ifCond .ne 27, 3, 107, 0, .null) := by decide +kernel
theorem k66_83 : am_cd am_x 66 83 = some (.aload_n 0, 1, 0, 0, .null) := by decide +kernel
theorem k66_84 : am_cd am_x 66 84 = some (.invokevirtual 53, 3, 80, 6, .null) := by decide +kernel
theorem k66_87 : am_cd am_x 66 87 = some (.ifCond .eq 20, 3, 107, 0, .null) := by decide +kernel
theorem k66_90 : am_cd am_x 66 90 = some (.aload_n 0, 1, 0, 0, .null) := by decide +kernel
theorem k66_91 : am_cd am_x 66 91 = some (.bipush 6, 2, 0, 0, .null) := by decide +kernel
theorem k66_93 : am_cd am_x 66 93 = some (.putfield 28, 3, 6, 2, .int 0) := by decide +kernel
theorem k66_96 : am_cd am_x 66 96 = some (.aload_n 0, 1, 0, 0, .null) := by decide +kernel
theorem k66_97 : am_cd am_x 66 97 = some (.aload_n 0, 1, 0, 0, .null) := by decide +kernel
theorem k66_98 : am_cd am_x 66 98 = some (.getfield 12, 3, 6, 0, .null) := by decide +kernel
theorem k66_101 : am_cd am_x 66 101 = some (.getfield 57, 3, 5, 1, .null) := by decide +kernel
theorem k66_104 : am_cd am_x 66 104 = some (.putfield 60, 3, 6, 3, .int 0) := by decide +kernel
theorem k66_107 : am_cd am_x 66 107 = some (.aload_n 0, 1, 0, 0, .null) := by decide +kernel
theorem k66_108 : am_cd am_x 66 108 = some (.getfield 21, 3, 6, 1, .null) := by decide +kernel
theorem k66_111 : am_cd am_x 66 111 = some (.invokevirtual 63, 3, 3, 0, .null) := by decide +kernel
theorem k66_114 : am_cd am_x 66 114 = some (.iload_n 1, 1, 0, 0, .null) := by decide +kernel
theorem k66_115 : am_cd am_x 66 115 = some (.ireturn, 1, 0, 0, .null) := by decide +kernel
theorem k67_0 : am_cd am_x 67 0 = some (.aload_n 0, 1, 0, 0, .null) := by decide +kernel
theorem k67_1 : am_cd am_x 67 1 = some (.aload_n 0, 1, 0, 0, .null) := by decide +kernel
theorem k67_2 : am_cd am_x 67 2 = some (.getfield 12, 3, 6, 0, .null) := by decide +kernel
theorem k67_5 : am_cd am_x 67 5 = some (.getfield 47, 3, 5, 3, .null) := by decide +kernel
theorem k67_8 : am_cd am_x 67 8 = some (.ifCond .ne 7, 3, 15, 0, .null) := by decide +kernel
theorem k67_11 : am_cd am_x 67 11 = some (.iconst 1, 1, 0, 0, .null) := by decide +kernel
theorem k67_12 : am_cd am_x 67 12 = some (.goto 4, 3, 16, 0, .null) := by decide +kernel
theorem k67_15 : am_cd am_x 67 15 = some (.iload_n 1, 1, 0, 0, .null) := by decide +kernel
theorem k67_16 : am_cd am_x 67 16 = some (.putfield 28, 3, 6, 2, .int 0) := by decide +kernel
theorem k67_19 : am_cd am_x 67 19 = some (.aload_n 0, 1, 0, 0, .null) := by decide +kernel
theorem k67_20 : am_cd am_x 67 20 = some (.aload_n 0, 1, 0, 0, .null) := by decide +kernel
theorem k67_21 : am_cd am_x 67 21 = some (.getfield 12, 3, 6, 0, .null) := by decide +kernel
theorem k67_24 : am_cd am_x 67 24 = some (.getfield 66, 3, 5, 4, .null) := by decide +kernel
theorem k67_27 : am_cd am_x 67 27 = some (.putfield 60, 3, 6, 3, .int 0) := by decide +kernel
theorem k67_30 : am_cd am_x 67 30 = some (.return_, 1, 0, 0, .null) := by decide +kernel
theorem k68_0 : am_cd am_x 68 0 = some (.aload_n 0, 1, 0, 0, .null) := by decide +kernel
theorem k68_1 : am_cd am_x 68 1 = some (.invokevirtual 69, 3, 69, 6, .null) := by decide +kernel
theorem k68_4 : am_cd am_x 68 4 = some (.istore_n 1, 1, 0, 0, .null) := by decide +kernel
theorem k68_5 : am_cd am_x 68 5 = some (.iload_n 1, 1, 0, 0, .null) := by decide +kernel
theorem k68_6 : am_cd am_x 68 6 = some (.bipush 6, 2, 0, 0, .null) := by decide +kernel
theorem k68_8 : am_cd am_x 68 8 = some (.if_icmp .ne 11, 3, 19, 0, .null) := by decide +kernel
theorem k68_11 : am_cd am_x 68 11 = some (.aload_n 0, 1, 0, 0, .null) := by decide +kernel
theorem k68_12 : am_cd am_x 68 12 = some (.iconst 2, 1, 0, 0, .null) := by decide +kernel
theorem k68_13 : am_cd am_x 68 13 = some (.invokevirtual 73, 3, 67, 6, .null) := by decide +kernel
theorem k68_16 : am_cd am_x 68 16 = some (.goto 61, 3, 77, 0, .null) := by decide +kernel
theorem k68_19 : am_cd am_x 68 19 = some (.aload_n 0, 1, 0, 0, .null) := by decide +kernel
theorem k68_20 : am_cd am_x 68 20 = some (.getfield 32, 3, 6, 4, .null) := by decide +kernel
theorem k68_23 : am_cd am_x 68 23 = some (.iload_n 1, 1, 0, 0, .null) := by decide +kernel
theorem k68_24 : am_cd am_x 68 24 = some (.ishr, 1, 0, 0, .null) := by decide +kernel
theorem k68_25 : am_cd am_x 68 25 = some (.iconst 1, 1, 0, 0, .null) := by decide +kernel
theorem k68_26 : am_cd am_x 68 26 = some (.iand, 1, 0, 0, .null) := by decide +kernel
theorem k68_27 : am_cd am_x 68 27 = some (.iconst 1, 1, 0, 0, .null) := by decide +kernel
theorem k68_28 : am_cd am_x 68 28 = some (.if_icmp .ne 11, 3, 39, 0, .null) := by decide +kernel
theorem k68_31 : am_cd am_x 68 31 = some (.aload_n 0, 1, 0, 0, .null) := by decide +kernel
theorem k68_32 : am_cd am_x 68 32 = some (.iconst 4, 1, 0, 0, .null) := by decide +kernel
theorem k68_33 : am_cd am_x 68 33 = some (.invokevirtual 73, 3, 67, 6, .null) := by decide +kernel
theorem k68_36 : am_cd am_x 68 36 = some (.goto 41, 3, 77, 0, .null) := by decide +kernel
theorem k68_39 : am_cd am_x 68 39 = some (.iload_n 1, 1, 0, 0, .null) := by decide +kernel
theorem k68_40 : am_cd am_x 68 40 = some (.ifCond .eq 13, 3, 53, 0, .null) := by decide +kernel
theorem k68_43 : am_cd am_x 68 43 = some (.iload_n 1, 1, 0, 0, .null) := by decide +kernel
theorem k68_44 : am_cd am_x 68 44 = some (.iconst 3, 1, 0, 0, .null) := by decide +kernel
theorem k68_45 : am_cd am_x 68 45 = some (.if_icmp .eq 8, 3, 53, 0, .null) := by decide +kernel
theorem k68_48 : am_cd am_x 68 48 = some (.iload_n 1, 1, 0, 0, .null) := by decide +kernel
theorem k68_49 : am_cd am_x 68 49 = some (.iconst 4, 1, 0, 0, .null) := by decide +kernel
theorem k68_50 : am_cd am_x 68 50 = some (.if_icmp .ne 15, 3, 65, 0, .null) := by decide +kernel
theorem k68_53 : am_cd am_x 68 53 = some (.aload_n 0, 1, 0, 0, .null) := by decide +kernel
theorem k68_54 : am_cd am_x 68 54 = some (.dup, 1, 0, 0, .null) := by decide +kernel
theorem k68_55 : am_cd am_x 68 55 = some (.getfield 32, 3, 6, 4, .null) := by decide +kernel
theorem k68_58 : am_cd am_x 68 58 = some (.iconst 1, 1, 0, 0, .null) := by decide +kernel
theorem k68_59 : am_cd am_x 68 59 = some (.iload_n 1, 1, 0, 0, .null) := by decide +kernel
theorem k68_60 : am_cd am_x 68 60 = some (.ishl, 1, 0, 0, .null) := by decide +kernel
theorem k68_61 : am_cd am_x 68 61 = some (.ior, 1, 0, 0, .null) := by decide +kernel
theorem k68_62 : am_cd am_x 68 62 = some (.putfield 32, 3, 6, 4, .int 0) := by decide +kernel
theorem k68_65 : am_cd am_x 68 65 = some (.aload_n 0, 1, 0, 0, .null) := by decide +kernel
theorem k68_66 : am_cd am_x 68 66 = some (.getfield 12, 3, 6, 0, .null) := by decide +kernel
theorem k68_69 : am_cd am_x 68 69 = some (.invokevirtual 77, 3, 59, 5, .null) := by decide +kernel
theorem k68_72 : am_cd am_x 68 72 = some (.aload_n 0, 1, 0, 0, .null) := by decide +kernel
theorem k68_73 : am_cd am_x 68 73 = some (.iload_n 1, 1, 0, 0, .null) := by decide +kernel
theorem k68_74 : am_cd am_x 68 74 = some (.invokevirtual 80, 3, 70, 6, .null) := by decide +kernel
theorem k68_77 : am_cd am_x 68 77 = some (.return_, 1, 0, 0, .null) := by decide +kernel
theorem k69_0 : am_cd am_x 69 0 = some (.aload_n 0, 1, 0, 0, .null) := by decide +kernel
theorem k69_1 : am_cd am_x 69 1 = some (.getfield 12, 3, 6, 0, .null) := by decide +kernel
theorem k69_4 : am_cd am_x 69 4 = some (.ldc 83, 2, 0, 0, .ref 1001) := by decide +kernel
theorem k69_6 : am_cd am_x 69 6 = some (.invokevirtual 85, 3, 64, 5, .null) := by decide +kernel
theorem k69_9 : am_cd am_x 69 9 = some (.ifCond .eq 5, 3, 14, 0, .null) := by decide +kernel
theorem k69_12 : am_cd am_x 69 12 = some (.iconst 0, 1, 0, 0, .null) := by decide +kernel
theorem k69_13 : am_cd am_x 69 13 = some (.ireturn, 1, 0, 0, .null) := by decide +kernel
theorem k69_14 : am_cd am_x 69 14 = some (.aload_n 0, 1, 0, 0, .null) := by decide +kernel
theorem k69_15 : am_cd am_x 69 15 = some (.getfield 12, 3, 6, 0, .null) := by decide +kernel
theorem k69_18 : am_cd am_x 69 18 = some (.ldc 89, 2, 0, 0, .ref 1002) := by decide +kernel
theorem k69_20 : am_cd am_x 69 20 = some (.invokevirtual 85, 3, 64, 5, .null) := by decide +kernel
theorem k69_23 : am_cd am_x 69 23 = some (.ifCond .eq 5, 3, 28, 0, .null) := by decide +kernel
theorem k69_26 : am_cd am_x 69 26 = some (.iconst 1, 1, 0, 0, .null) := by decide +kernel
theorem k69_27 : am_cd am_x 69 27 = some (.ireturn, 1, 0, 0, .null) := by decide +kernel
theorem k69_28 : am_cd am_x 69 28 = some (.aload_n 0, 1, 0, 0, .null) := by decide +kernel
theorem k69_29 : am_cd am_x 69 29 = some (.getfield 12, 3, 6, 0, .null) := by decide +kernel
theorem k69_32 : am_cd am_x 69 32 = some (.ldc 91, 2, 0, 0, .ref 1003) := by decide +kernel
theorem k69_34 : am_cd am_x 69 34 = some (.invokevirtual 85, 3, 64, 5, .null) := by decide +kernel
theorem k69_37 : am_cd am_x 69 37 = some (.ifCond .eq 5, 3, 42, 0, .null) := by decide +kernel
theorem k69_40 : am_cd am_x 69 40 = some (.iconst 2, 1, 0, 0, .null) := by decide +kernel
theorem k69_41 : am_cd am_x 69 41 = some (.ireturn, 1, 0, 0, .null) := by decide +kernel
theorem k69_42 : am_cd am_x 69 42 = some (.aload_n 0, 1, 0, 0, .null) := by decide +kernel
theorem k69_43 : am_cd am_x 69 43 = some (.getfield 12, 3, 6, 0, .null) := by decide +kernel
theorem k69_46 : am_cd am_x 69 46 = some (.ldc 93, 2, 0, 0, .ref 1004) := by decide +kernel
theorem k69_48 : am_cd am_x 69 48 = some (.invokevirtual 85, 3, 64, 5, .null) := by decide +kernel
theorem k69_51 : am_cd am_x 69 51 = some (.ifCond .eq 5, 3, 56, 0, .null) := by decide +kernel
theorem k69_54 : am_cd am_x 69 54 = some (.iconst 3, 1, 0, 0, .null) := by decide +kernel
theorem k69_55 : am_cd am_x 69 55 = some (.ireturn, 1, 0, 0, .null) := by decide +kernel
theorem k69_56 : am_cd am_x 69 56 = some (.aload_n 0, 1, 0, 0, .null) := by decide +kernel
theorem k69_57 : am_cd am_x 69 57 = some (.getfield 12, 3, 6, 0, .null) := by decide +kernel
theorem k69_60 : am_cd am_x 69 60 = some (.ldc 95, 2, 0, 0, .ref 1005) := by decide +kernel
theorem k69_62 : am_cd am_x 69 62 = some (.invokevirtual 85, 3, 64, 5, .null) := by decide +kernel
theorem k69_65 : am_cd am_x 69 65 = some (.ifCond .eq 5, 3, 70, 0, .null) := by decide +kernel
theorem k69_68 : am_cd am_x 69 68 = some (.iconst 4, 1, 0, 0, .null) := by decide +kernel
theorem k69_69 : am_cd am_x 69 69 = some (.ireturn, 1, 0, 0, .null) := by decide +kernel
theorem k69_70 : am_cd am_x 69 70 = some (.aload_n 0, 1, 0, 0, .null) := by decide +kernel
theorem k69_71 : am_cd am_x 69 71 = some (.getfield 12, 3, 6, 0, .null) := by decide +kernel
theorem k69_74 : am_cd am_x 69 74 = some (.ldc 97, 2, 0, 0, .ref 1006) := by decide +kernel
theorem k69_76 : am_cd am_x 69 76 = some (.invokevirtual 85, 3, 64, 5, .null) := by decide +kernel
theorem k69_79 : am_cd am_x 69 79 = some (.ifCond .eq 7, 3, 86, 0, .null) := by decide +kernel
theorem k69_82 : am_cd am_x 69 82 = some (.iconst 5, 1, 0, 0, .null) := by decide +kernel
theorem k69_83 : am_cd am_x 69 83 = some (.goto 5, 3, 88, 0, .null) := by decide +kernel
theorem k69_86 : am_cd am_x 69 86 = some (.bipush 6, 2, 0, 0, .null) := by decide +kernel
theorem k69_88 : am_cd am_x 69 88 = some (.ireturn, 1, 0, 0, .null) := by decide +kernel
theorem k70_0 : am_cd am_x 70 0 = some (.iload_n 1, 1, 0, 0, .null) := by decide +kernel
theorem k70_1 : am_cd am_x 70 1 = some (.invokestatic 99, 3, 71, 0, .null) := by decide +kernel
theorem k70_4 : am_cd am_x 70 4 = some (.istore_n 2, 1, 0, 0, .null) := by decide +kernel
theorem k70_5 : am_cd am_x 70 5 = some (.iload_n 1, 1, 0, 0, .null) := by decide +kernel
theorem k70_6 : am_cd am_x 70 6 = some (.iconst 1, 1, 0, 0, .null) := by decide +kernel
theorem k70_7 : am_cd am_x 70 7 = some (.if_icmp .eq 8, 3, 15, 0, .null) := by decide +kernel
theorem k70_10 : am_cd am_x 70 10 = some (.iload_n 1, 1, 0, 0, .null) := by decide +kernel
theorem k70_11 : am_cd am_x 70 11 = some (.iconst 2, 1, 0, 0, .null) := by decide +kernel
theorem k70_12 : am_cd am_x 70 12 = some (.if_icmp .ne 9, 3, 21, 0, .null) := by decide +kernel
theorem k70_15 : am_cd am_x 70 15 = some (.sipush 160, 3, 0, 0, .null) := by decide +kernel
theorem k70_18 : am_cd am_x 70 18 = some (.goto 4, 3, 22, 0, .null) := by decide +kernel
theorem k70_21 : am_cd am_x 70 21 = some (.iload_n 2, 1, 0, 0, .null) := by decide +kernel
theorem k70_22 : am_cd am_x 70 22 = some (.istore_n 3, 1, 0, 0, .null) := by decide +kernel
theorem k70_23 : am_cd am_x 70 23 = some (.iconst 0, 1, 0, 0, .null) := by decide +kernel
theorem k70_24 : am_cd am_x 70 24 = some (.istore 4, 2, 0, 0, .null) := by decide +kernel
theorem k70_26 : am_cd am_x 70 26 = some (.iload 4, 2, 0, 0, .null) := by decide +kernel
theorem k70_28 : am_cd am_x 70 28 = some (.iload_n 3, 1, 0, 0, .null) := by decide +kernel
theorem k70_29 : am_cd am_x 70 29 = some (.if_icmp .ge 88, 3, 117, 0, .null) := by decide +kernel
theorem k70_32 : am_cd am_x 70 32 = some (.aload_n 0, 1, 0, 0, .null) := by decide +kernel
theorem k70_33 : am_cd am_x 70 33 = some (.getfield 28, 3, 6, 2, .null) := by decide +kernel
theorem k70_36 : am_cd am_x 70 36 = some (.ifCond .ne 81, 3, 117, 0, .null) := by decide +kernel
theorem k70_39 : am_cd am_x 70 39 = some (.aload_n 0, 1, 0, 0, .null) := by decide +kernel
theorem k70_40 : am_cd am_x 70 40 = some (.getfield 12, 3, 6, 0, .null) := by decide +kernel
theorem k70_43 : am_cd am_x 70 43 = some (.getfield 47, 3, 5, 3, .null) := by decide +kernel
theorem k70_46 : am_cd am_x 70 46 = some (.iconst 2, 1, 0, 0, .null) := by decide +kernel
theorem k70_47 : am_cd am_x 70 47 = some (.if_icmp .ne 70, 3, 117, 0, .null) := by decide +kernel
theorem k70_50 : am_cd am_x 70 50 = some (.aload_n 0, 1, 0, 0, .null) := by decide +kernel
theorem k70_51 : am_cd am_x 70 51 = some (.getfield 12, 3, 6, 0, .null) := by decide +kernel
theorem k70_54 : am_cd am_x 70 54 = some (.getfield 103, 3, 5, 5, .null) := by decide +kernel
theorem k70_57 : am_cd am_x 70 57 = some (.iload_n 1, 1, 0, 0, .null) := by decide +kernel
theorem k70_58 : am_cd am_x 70 58 = some (.iload 4, 2, 0, 0, .null) := by decide +kernel
theorem k70_60 : am_cd am_x 70 60 = some (.invokestatic 106, 3, 72, 0, .null) := by decide +kernel
theorem k70_63 : am_cd am_x 70 63 = some (.if_icmp .lt 19, 3, 82, 0, .null) := by decide +kernel
theorem k70_66 : am_cd am_x 70 66 = some (.aload_n 0, 1, 0, 0, .null) := by decide +kernel
theorem k70_67 : am_cd am_x 70 67 = some (.getfield 12, 3, 6, 0, .null) := by decide +kernel
theorem k70_70 : am_cd am_x 70 70 = some (.getfield 103, 3, 5, 5, .null) := by decide +kernel
theorem k70_73 : am_cd am_x 70 73 = some (.iload_n 1, 1, 0, 0, .null) := by decide +kernel
theorem k70_74 : am_cd am_x 70 74 = some (.iload 4, 2, 0, 0, .null) := by decide +kernel
theorem k70_76 : am_cd am_x 70 76 = some (.invokestatic 110, 3, 73, 0, .null) := by decide +kernel
theorem k70_79 : am_cd am_x 70 79 = some (.if_icmp .le 11, 3, 90, 0, .null) := by decide +kernel
theorem k70_82 : am_cd am_x 70 82 = some (.aload_n 0, 1, 0, 0, .null) := by decide +kernel
theorem k70_83 : am_cd am_x 70 83 = some (.iconst 3, 1, 0, 0, .null) := by decide +kernel
theorem k70_84 : am_cd am_x 70 84 = some (.invokevirtual 73, 3, 67, 6, .null) := by decide +kernel
theorem k70_87 : am_cd am_x 70 87 = some (.goto 24, 3, 111, 0, .null) := by decide +kernel
theorem k70_90 : am_cd am_x 70 90 = some (.aload_n 0, 1, 0, 0, .null) := by decide +kernel
theorem k70_91 : am_cd am_x 70 91 = some (.iload_n 1, 1, 0, 0, .null) := by decide +kernel
theorem k70_92 : am_cd am_x 70 92 = some (.iload 4, 2, 0, 0, .null) := by decide +kernel
theorem k70_94 : am_cd am_x 70 94 = some (.aload_n 0, 1, 0, 0, .null) := by decide +kernel
theorem k70_95 : am_cd am_x 70 95 = some (.getfield 12, 3, 6, 0, .null) := by decide +kernel
theorem k70_98 : am_cd am_x 70 98 = some (.getfield 103, 3, 5, 5, .null) := by decide +kernel
theorem k70_101 : am_cd am_x 70 101 = some (.invokevirtual 113, 3, 74, 6, .null) := by decide +kernel
theorem k70_104 : am_cd am_x 70 104 = some (.aload_n 0, 1, 0, 0, .null) := by decide +kernel
theorem k70_105 : am_cd am_x 70 105 = some (.getfield 12, 3, 6, 0, .null) := by decide +kernel
theorem k70_108 : am_cd am_x 70 108 = some (.invokevirtual 77, 3, 59, 5, .null) := by decide +kernel
theorem k70_111 : am_cd am_x 70 111 = some (.iinc 4 1, 3, 0, 0, .null) := by decide +kernel
theorem k70_114 : am_cd am_x 70 114 = some (.goto (-88), 3, 26, 0, .null) := by decide +kernel
theorem k70_117 : am_cd am_x 70 117 = some (.aload_n 0, 1, 0, 0, .null) := by decide +kernel
theorem k70_118 : am_cd am_x 70 118 = some (.getfield 28, 3, 6, 2, .null) := by decide +kernel
theorem k70_121 : am_cd am_x 70 121 = some (.ifCond .ne 35, 3, 156, 0, .null) := by decide +kernel
theorem k70_124 : am_cd am_x 70 124 = some (.iload 4, 2, 0, 0, .null) := by decide +kernel
theorem k70_126 : am_cd am_x 70 126 = some (.iload_n 2, 1, 0, 0, .null) := by decide +kernel
theorem k70_127 : am_cd am_x 70 127 = some (.if_icmp .lt 14, 3, 141, 0, .null) := by decide +kernel
theorem k70_130 : am_cd am_x 70 130 = some (.aload_n 0, 1, 0, 0, .null) := by decide +kernel
theorem k70_131 : am_cd am_x 70 131 = some (.getfield 12, 3, 6, 0, .null) := by decide +kernel
theorem k70_134 : am_cd am_x 70 134 = some (.getfield 47, 3, 5, 3, .null) := by decide +kernel
theorem k70_137 : am_cd am_x 70 137 = some (.iconst 3, 1, 0, 0, .null) := by decide +kernel
theorem k70_138 : am_cd am_x 70 138 = some (.if_icmp .eq 11, 3, 149, 0, .null) := by decide +kernel
theorem k70_141 : am_cd am_x 70 141 = some (.aload_n 0, 1, 0, 0, .null) := by decide +kernel
theorem k70_142 : am_cd am_x 70 142 = some (.iconst 2, 1, 0, 0, .null) := by decide +kernel
theorem k70_143 : am_cd am_x 70 143 = some (.invokevirtual 73, 3, 67, 6, .null) := by decide +kernel
theorem k70_146 : am_cd am_x 70 146 = some (.goto 10, 3, 156, 0, .null) := by decide +kernel
theorem k70_149 : am_cd am_x 70 149 = some (.aload_n 0, 1, 0, 0, .null) := by decide +kernel
theorem k70_150 : am_cd am_x 70 150 = some (.getfield 12, 3, 6, 0, .null) := by decide +kernel
theorem k70_153 : am_cd am_x 70 153 = some (.invokevirtual 77, 3, 59, 5, .null) := by decide +kernel
theorem k70_156 : am_cd am_x 70 156 = some (.return_, 1, 0, 0, .null) := by decide +kernel
theorem k71_0 : am_cd am_x 71 0 = some (.iload_n 0, 1, 0, 0, .null) := by decide +kernel
theorem k71_1 : am_cd am_x 71 1 = some (.tableswitch 35 1 4 #[31, 33, 31, 33], 31, 0, 0, .null) := by decide +kernel
theorem k71_32 : am_cd am_x 71 32 = some (.iconst 2, 1, 0, 0, .null) := by decide +kernel
theorem k71_33 : am_cd am_x 71 33 = some (.ireturn, 1, 0, 0, .null) := by decide +kernel
theorem k71_34 : am_cd am_x 71 34 = some (.iconst 1, 1, 0, 0, .null) := by decide +kernel
theorem k71_35 : am_cd am_x 71 35 = some (.ireturn, 1, 0, 0, .null) := by decide +kernel
theorem k71_36 : am_cd am_x 71 36 = some (.iconst 3, 1, 0, 0, .null) := by decide +kernel
theorem k71_37 : am_cd am_x 71 37 = some (.ireturn, 1, 0, 0, .null) := by decide +kernel
theorem k72_0 : am_cd am_x 72 0 = some (.iload_n 0, 1, 0, 0, .null) := by decide +kernel
theorem k72_1 : am_cd am_x 72 1 = some (.ifCond .eq 12, 3, 13, 0, .null) := by decide +kernel
theorem k72_4 : am_cd am_x 72 4 = some (.iload_n 0, 1, 0, 0, .null) := by decide +kernel
theorem k72_5 : am_cd am_x 72 5 = some (.iconst 3, 1, 0, 0, .null) := by decide +kernel
theorem k72_6 : am_cd am_x 72 6 = some (.if_icmp .ne 11, 3, 17, 0, .null) := by decide +kernel
theorem k72_9 : am_cd am_x 72 9 = some (.iload_n 1, 1, 0, 0, .null) := by decide +kernel
theorem k72_10 : am_cd am_x 72 10 = some (.ifCond .ne 7, 3, 17, 0, .null) := by decide +kernel
theorem k72_13 : am_cd am_x 72 13 = some (.iconst 1, 1, 0, 0, .null) := by decide +kernel
theorem k72_14 : am_cd am_x 72 14 = some (.goto 4, 3, 18, 0, .null) := by decide +kernel
theorem k72_17 : am_cd am_x 72 17 = some (.iconst 0, 1, 0, 0, .null) := by decide +kernel
theorem k72_18 : am_cd am_x 72 18 = some (.ireturn, 1, 0, 0, .null) := by decide +kernel
theorem k73_0 : am_cd am_x 73 0 = some (.iload_n 0, 1, 0, 0, .null) := by decide +kernel
theorem k73_1 : am_cd am_x 73 1 = some (.tableswitch 71 0 5 #[39, 71, 71, 42, 55, 59], 39, 0, 0, .null) := by decide +kernel
theorem k73_40 : am_cd am_x 73 40 = some (.bipush 8, 2, 0, 0, .null) := by decide +kernel
theorem k73_42 : am_cd am_x 73 42 = some (.ireturn, 1, 0, 0, .null) := by decide +kernel
theorem k73_43 : am_cd am_x 73 43 = some (.iload_n 1, 1, 0, 0, .null) := by decide +kernel
theorem k73_44 : am_cd am_x 73 44 = some (.ifCond .ne 8, 3, 52, 0, .null) := by decide +kernel
theorem k73_47 : am_cd am_x 73 47 = some (.bipush 12, 2, 0, 0, .null) := by decide +kernel
theorem k73_49 : am_cd am_x 73 49 = some (.goto 6, 3, 55, 0, .null) := by decide +kernel
theorem k73_52 : am_cd am_x 73 52 = some (.sipush 4095, 3, 0, 0, .null) := by decide +kernel
theorem k73_55 : am_cd am_x 73 55 = some (.ireturn, 1, 0, 0, .null) := by decide +kernel
theorem k73_56 : am_cd am_x 73 56 = some (.sipush 255, 3, 0, 0, .null) := by decide +kernel
theorem k73_59 : am_cd am_x 73 59 = some (.ireturn, 1, 0, 0, .null) := by decide +kernel
theorem k73_60 : am_cd am_x 73 60 = some (.iload_n 1, 1, 0, 0, .null) := by decide +kernel
theorem k73_61 : am_cd am_x 73 61 = some (.iconst 2, 1, 0, 0, .null) := by decide +kernel
theorem k73_62 : am_cd am_x 73 62 = some (.if_icmp .ne 7, 3, 69, 0, .null) := by decide +kernel
theorem k73_65 : am_cd am_x 73 65 = some (.iconst 2, 1, 0, 0, .null) := by decide +kernel
theorem k73_66 : am_cd am_x 73 66 = some (.goto 5, 3, 71, 0, .null) := by decide +kernel
theorem k73_69 : am_cd am_x 73 69 = some (.bipush 7, 2, 0, 0, .null) := by decide +kernel
theorem k73_71 : am_cd am_x 73 71 = some (.ireturn, 1, 0, 0, .null) := by decide +kernel
theorem k73_72 : am_cd am_x 73 72 = some (.bipush 7, 2, 0, 0, .null) := by decide +kernel
theorem k73_74 : am_cd am_x 73 74 = some (.ireturn, 1, 0, 0, .null) := by decide +kernel
theorem k74_0 : am_cd am_x 74 0 = some (.iload_n 1, 1, 0, 0, .null) := by decide +kernel
theorem k74_1 : am_cd am_x 74 1 = some (.iconst 2, 1, 0, 0, .null) := by decide +kernel
theorem k74_2 : am_cd am_x 74 2 = some (.if_icmp .eq 17, 3, 19, 0, .null) := by decide +kernel
theorem k74_5 : am_cd am_x 74 5 = some (.iload_n 2, 1, 0, 0, .null) := by decide +kernel
theorem k74_6 : am_cd am_x 74 6 = some (.ifCond .ne 18, 3, 24, 0, .null) := by decide +kernel
theorem k74_9 : am_cd am_x 74 9 = some (.iload_n 1, 1, 0, 0, .null) := by decide +kernel
theorem k74_10 : am_cd am_x 74 10 = some (.iconst 1, 1, 0, 0, .null) := by decide +kernel
theorem k74_11 : am_cd am_x 74 11 = some (.if_icmp .eq 8, 3, 19, 0, .null) := by decide +kernel
theorem k74_14 : am_cd am_x 74 14 = some (.iload_n 1, 1, 0, 0, .null) := by decide +kernel
theorem k74_15 : am_cd am_x 74 15 = some (.iconst 5, 1, 0, 0, .null) := by decide +kernel
theorem k74_16 : am_cd am_x 74 16 = some (.if_icmp .ne 8, 3, 24, 0, .null) := by decide +kernel
theorem k74_19 : am_cd am_x 74 19 = some (.aload_n 0, 1, 0, 0, .null) := by decide +kernel
theorem k74_20 : am_cd am_x 74 20 = some (.iload_n 3, 1, 0, 0, .null) := by decide +kernel
theorem k74_21 : am_cd am_x 74 21 = some (.invokevirtual 117, 3, 75, 6, .null) := by decide +kernel
theorem k74_24 : am_cd am_x 74 24 = some (.iload_n 1, 1, 0, 0, .null) := by decide +kernel
theorem k74_25 : am_cd am_x 74 25 = some (.tableswitch 91 0 4 #[35, 44, 53, 71, 80], 35, 0, 0, .null) := by decide +kernel
theorem k74_60 : am_cd am_x 74 60 = some (.aload_n 0, 1, 0, 0, .null) := by decide +kernel
theorem k74_61 : am_cd am_x 74 61 = some (.iload_n 2, 1, 0, 0, .null) := by decide +kernel
theorem k74_62 : am_cd am_x 74 62 = some (.iload_n 3, 1, 0, 0, .null) := by decide +kernel
theorem k74_63 : am_cd am_x 74 63 = some (.invokevirtual 120, 3, 76, 6, .null) := by decide +kernel
theorem k74_66 : am_cd am_x 74 66 = some (.goto 56, 3, 122, 0, .null) := by decide +kernel
theorem k74_69 : am_cd am_x 74 69 = some (.aload_n 0, 1, 0, 0, .null) := by decide +kernel
theorem k74_70 : am_cd am_x 74 70 = some (.iload_n 2, 1, 0, 0, .null) := by decide +kernel
theorem k74_71 : am_cd am_x 74 71 = some (.iload_n 3, 1, 0, 0, .null) := by decide +kernel
theorem k74_72 : am_cd am_x 74 72 = some (.invokevirtual 124, 3, 77, 6, .null) := by decide +kernel
theorem k74_75 : am_cd am_x 74 75 = some (.goto 47, 3, 122, 0, .null) := by decide +kernel
theorem k74_78 : am_cd am_x 74 78 = some (.aload_n 0, 1, 0, 0, .null) := by decide +kernel
theorem k74_79 : am_cd am_x 74 79 = some (.getfield 21, 3, 6, 1, .null) := by decide +kernel
theorem k74_82 : am_cd am_x 74 82 = some (.dup, 1, 0, 0, .null) := by decide +kernel
theorem k74_83 : am_cd am_x 74 83 = some (.getfield 127, 3, 0, 3, .null) := by decide +kernel
theorem k74_86 : am_cd am_x 74 86 = some (.iconst 1, 1, 0, 0, .null) := by decide +kernel
theorem k74_87 : am_cd am_x 74 87 = some (.iload_n 3, 1, 0, 0, .null) := by decide +kernel
theorem k74_88 : am_cd am_x 74 88 = some (.ishl, 1, 0, 0, .null) := by decide +kernel
theorem k74_89 : am_cd am_x 74 89 = some (.ior, 1, 0, 0, .null) := by decide +kernel
theorem k74_90 : am_cd am_x 74 90 = some (.putfield 127, 3, 0, 3, .int 0) := by decide +kernel
theorem k74_93 : am_cd am_x 74 93 = some (.goto 29, 3, 122, 0, .null) := by decide +kernel
theorem k74_96 : am_cd am_x 74 96 = some (.aload_n 0, 1, 0, 0, .null) := by decide +kernel
theorem k74_97 : am_cd am_x 74 97 = some (.iload_n 2, 1, 0, 0, .null) := by decide +kernel
theorem k74_98 : am_cd am_x 74 98 = some (.iload_n 3, 1, 0, 0, .null) := by decide +kernel
theorem k74_99 : am_cd am_x 74 99 = some (.invokevirtual 130, 3, 78, 6, .null) := by decide +kernel
theorem k74_102 : am_cd am_x 74 102 = some (.goto 20, 3, 122, 0, .null) := by decide +kernel
theorem k74_105 : am_cd am_x 74 105 = some (.aload_n 0, 1, 0, 0, .null) := by decide +kernel
theorem k74_106 : am_cd am_x 74 106 = some (.getfield 21, 3, 6, 1, .null) := by decide +kernel
theorem k74_109 : am_cd am_x 74 109 = some (.iload_n 3, 1, 0, 0, .null) := by decide +kernel
theorem k74_110 : am_cd am_x 74 110 = some (.putfield 133, 3, 0, 6, .int 0) := by decide +kernel
theorem k74_113 : am_cd am_x 74 113 = some (.goto 9, 3, 122, 0, .null) := by decide +kernel
theorem k74_116 : am_cd am_x 74 116 = some (.aload_n 0, 1, 0, 0, .null) := by decide +kernel
theorem k74_117 : am_cd am_x 74 117 = some (.iload_n 2, 1, 0, 0, .null) := by decide +kernel
theorem k74_118 : am_cd am_x 74 118 = some (.iload_n 3, 1, 0, 0, .null) := by decide +kernel
theorem k74_119 : am_cd am_x 74 119 = some (.invokevirtual 135, 3, 79, 6, .null) := by decide +kernel
theorem k74_122 : am_cd am_x 74 122 = some (.return_, 1, 0, 0, .null) := by decide +kernel
theorem k75_0 : am_cd am_x 75 0 = some (.aload_n 0, 1, 0, 0, .null) := by decide +kernel
theorem k75_1 : am_cd am_x 75 1 = some (.aload_n 0, 1, 0, 0, .null) := by decide +kernel
theorem k75_2 : am_cd am_x 75 2 = some (.getfield 35, 3, 6, 7, .null) := by decide +kernel
theorem k75_5 : am_cd am_x 75 5 = some (.iload_n 1, 1, 0, 0, .null) := by decide +kernel
theorem k75_6 : am_cd am_x 75 6 = some (.iconst 1, 1, 0, 0, .null) := by decide +kernel
theorem k75_7 : am_cd am_x 75 7 = some (.iadd, 1, 0, 0, .null) := by decide +kernel
theorem k75_8 : am_cd am_x 75 8 = some (.invokestatic 138, 3, 902, 0, .null) := by decide +kernel
theorem k75_11 : am_cd am_x 75 11 = some (.putfield 35, 3, 6, 7, .int 0) := by decide +kernel
theorem k75_14 : am_cd am_x 75 14 = some (.aload_n 0, 1, 0, 0, .null) := by decide +kernel
theorem k75_15 : am_cd am_x 75 15 = some (.iload_n 1, 1, 0, 0, .null) := by decide +kernel
theorem k75_16 : am_cd am_x 75 16 = some (.putfield 143, 3, 6, 5, .int 0) := by decide +kernel
theorem k75_19 : am_cd am_x 75 19 = some (.return_, 1, 0, 0, .null) := by decide +kernel
theorem k76_0 : am_cd am_x 76 0 = some (.iload_n 1, 1, 0, 0, .null) := by decide +kernel
theorem k76_1 : am_cd am_x 76 1 = some (.lookupswitch 49 #[(0, 27), (1, 38)], 27, 0, 0, .null) := by decide +kernel
theorem k76_28 : am_cd am_x 76 28 = some (.aload_n 0, 1, 0, 0, .null) := by decide +kernel
theorem k76_29 : am_cd am_x 76 29 = some (.getfield 21, 3, 6, 1, .null) := by decide +kernel
theorem k76_32 : am_cd am_x 76 32 = some (.iload_n 2, 1, 0, 0, .null) := by decide +kernel
theorem k76_33 : am_cd am_x 76 33 = some (.putfield 146, 3, 0, 0, .int 0) := by decide +kernel
theorem k76_36 : am_cd am_x 76 36 = some (.goto 22, 3, 58, 0, .null) := by decide +kernel
theorem k76_39 : am_cd am_x 76 39 = some (.aload_n 0, 1, 0, 0, .null) := by decide +kernel
theorem k76_40 : am_cd am_x 76 40 = some (.getfield 21, 3, 6, 1, .null) := by decide +kernel
theorem k76_43 : am_cd am_x 76 43 = some (.iload_n 2, 1, 0, 0, .null) := by decide +kernel
theorem k76_44 : am_cd am_x 76 44 = some (.putfield 149, 3, 0, 1, .int 0) := by decide +kernel
theorem k76_47 : am_cd am_x 76 47 = some (.goto 11, 3, 58, 0, .null) := by decide +kernel
theorem k76_50 : am_cd am_x 76 50 = some (.aload_n 0, 1, 0, 0, .null) := by decide +kernel
theorem k76_51 : am_cd am_x 76 51 = some (.getfield 21, 3, 6, 1, .null) := by decide +kernel
theorem k76_54 : am_cd am_x 76 54 = some (.iload_n 2, 1, 0, 0, .null) := by decide +kernel
theorem k76_55 : am_cd am_x 76 55 = some (.putfield 150, 3, 0, 2, .int 0) := by decide +kernel
theorem k76_58 : am_cd am_x 76 58 = some (.return_, 1, 0, 0, .null) := by decide +kernel
theorem k77_0 : am_cd am_x 77 0 = some (.iload_n 1, 1, 0, 0, .null) := by decide +kernel
theorem k77_1 : am_cd am_x 77 1 = some (.ifCond .le 35, 3, 36, 0, .null) := by decide +kernel
theorem k77_4 : am_cd am_x 77 4 = some (.aload_n 0, 1, 0, 0, .null) := by decide +kernel
theorem k77_5 : am_cd am_x 77 5 = some (.aload_n 0, 1, 0, 0, .null) := by decide +kernel
theorem k77_6 : am_cd am_x 77 6 = some (.getfield 41, 3, 6, 9, .null) := by decide +kernel
theorem k77_9 : am_cd am_x 77 9 = some (.iload_n 2, 1, 0, 0, .null) := by decide +kernel
theorem k77_10 : am_cd am_x 77 10 = some (.iconst 1, 1, 0, 0, .null) := by decide +kernel
theorem k77_11 : am_cd am_x 77 11 = some (.iadd, 1, 0, 0, .null) := by decide +kernel
theorem k77_12 : am_cd am_x 77 12 = some (.invokestatic 138, 3, 902, 0, .null) := by decide +kernel
theorem k77_15 : am_cd am_x 77 15 = some (.putfield 41, 3, 6, 9, .int 0) := by decide +kernel
theorem k77_18 : am_cd am_x 77 18 = some (.aload_n 0, 1, 0, 0, .null) := by decide +kernel
theorem k77_19 : am_cd am_x 77 19 = some (.getfield 21, 3, 6, 1, .null) := by decide +kernel
theorem k77_22 : am_cd am_x 77 22 = some (.getfield 153, 3, 0, 9, .null) := by decide +kernel
theorem k77_25 : am_cd am_x 77 25 = some (.aload_n 0, 1, 0, 0, .null) := by decide +kernel
theorem k77_26 : am_cd am_x 77 26 = some (.getfield 143, 3, 6, 5, .null) := by decide +kernel
theorem k77_29 : am_cd am_x 77 29 = some (.dup2, 1, 0, 0, .null) := by decide +kernel
theorem k77_30 : am_cd am_x 77 30 = some (.iaload, 1, 0, 0, .null) := by decide +kernel
theorem k77_31 : am_cd am_x 77 31 = some (.iconst 1, 1, 0, 0, .null) := by decide +kernel
theorem k77_32 : am_cd am_x 77 32 = some (.iload_n 2, 1, 0, 0, .null) := by decide +kernel
theorem k77_33 : am_cd am_x 77 33 = some (.ishl, 1, 0, 0, .null) := by decide +kernel
theorem k77_34 : am_cd am_x 77 34 = some (.ior, 1, 0, 0, .null) := by decide +kernel
theorem k77_35 : am_cd am_x 77 35 = some (.iastore, 1, 0, 0, .null) := by decide +kernel
theorem k77_36 : am_cd am_x 77 36 = some (.return_, 1, 0, 0, .null) := by decide +kernel
theorem k78_0 : am_cd am_x 78 0 = some (.iload_n 1, 1, 0, 0, .null) := by decide +kernel
theorem k78_1 : am_cd am_x 78 1 = some (.ifCond .ne 14, 3, 15, 0, .null) := by decide +kernel
theorem k78_4 : am_cd am_x 78 4 = some (.aload_n 0, 1, 0, 0, .null) := by decide +kernel
theorem k78_5 : am_cd am_x 78 5 = some (.getfield 21, 3, 6, 1, .null) := by decide +kernel
theorem k78_8 : am_cd am_x 78 8 = some (.iload_n 2, 1, 0, 0, .null) := by decide +kernel
theorem k78_9 : am_cd am_x 78 9 = some (.putfield 157, 3, 0, 4, .int 0) := by decide +kernel
theorem k78_12 : am_cd am_x 78 12 = some (.goto 11, 3, 23, 0, .null) := by decide +kernel
theorem k78_15 : am_cd am_x 78 15 = some (.aload_n 0, 1, 0, 0, .null) := by decide +kernel
theorem k78_16 : am_cd am_x 78 16 = some (.getfield 21, 3, 6, 1, .null) := by decide +kernel
theorem k78_19 : am_cd am_x 78 19 = some (.iload_n 2, 1, 0, 0, .null) := by decide +kernel
theorem k78_20 : am_cd am_x 78 20 = some (.putfield 160, 3, 0, 5, .int 0) := by decide +kernel
theorem k78_23 : am_cd am_x 78 23 = some (.return_, 1, 0, 0, .null) := by decide +kernel
theorem k79_0 : am_cd am_x 79 0 = some (.iload_n 1, 1, 0, 0, .null) := by decide +kernel
theorem k79_1 : am_cd am_x 79 1 = some (.iconst 1, 1, 0, 0, .null) := by decide +kernel
theorem k79_2 : am_cd am_x 79 2 = some (.if_icmp .ne 25, 3, 27, 0, .null) := by decide +kernel
theorem k79_5 : am_cd am_x 79 5 = some (.aload_n 0, 1, 0, 0, .null) := by decide +kernel
theorem k79_6 : am_cd am_x 79 6 = some (.aload_n 0, 1, 0, 0, .null) := by decide +kernel
theorem k79_7 : am_cd am_x 79 7 = some (.getfield 38, 3, 6, 8, .null) := by decide +kernel
theorem k79_10 : am_cd am_x 79 10 = some (.iload_n 2, 1, 0, 0, .null) := by decide +kernel
theorem k79_11 : am_cd am_x 79 11 = some (.iconst 1, 1, 0, 0, .null) := by decide +kernel
theorem k79_12 : am_cd am_x 79 12 = some (.iadd, 1, 0, 0, .null) := by decide +kernel
theorem k79_13 : am_cd am_x 79 13 = some (.invokestatic 138, 3, 902, 0, .null) := by decide +kernel
theorem k79_16 : am_cd am_x 79 16 = some (.putfield 38, 3, 6, 8, .int 0) := by decide +kernel
theorem k79_19 : am_cd am_x 79 19 = some (.aload_n 0, 1, 0, 0, .null) := by decide +kernel
theorem k79_20 : am_cd am_x 79 20 = some (.iload_n 2, 1, 0, 0, .null) := by decide +kernel
theorem k79_21 : am_cd am_x 79 21 = some (.putfield 163, 3, 6, 6, .int 0) := by decide +kernel
theorem k79_24 : am_cd am_x 79 24 = some (.goto 28, 3, 52, 0, .null) := by decide +kernel
theorem k79_27 : am_cd am_x 79 27 = some (.iload_n 1, 1, 0, 0, .null) := by decide +kernel
theorem k79_28 : am_cd am_x 79 28 = some (.iconst 2, 1, 0, 0, .null) := by decide +kernel
theorem k79_29 : am_cd am_x 79 29 = some (.if_icmp .ne 23, 3, 52, 0, .null) := by decide +kernel
theorem k79_32 : am_cd am_x 79 32 = some (.aload_n 0, 1, 0, 0, .null) := by decide +kernel
theorem k79_33 : am_cd am_x 79 33 = some (.getfield 21, 3, 6, 1, .null) := by decide +kernel
theorem k79_36 : am_cd am_x 79 36 = some (.getfield 166, 3, 0, 7, .null) := by decide +kernel
theorem k79_39 : am_cd am_x 79 39 = some (.aload_n 0, 1, 0, 0, .null) := by decide +kernel
theorem k79_40 : am_cd am_x 79 40 = some (.getfield 143, 3, 6, 5, .null) := by decide +kernel
theorem k79_43 : am_cd am_x 79 43 = some (.aload_n 0, 1, 0, 0, .null) := by decide +kernel
theorem k79_44 : am_cd am_x 79 44 = some (.getfield 163, 3, 6, 6, .null) := by decide +kernel
theorem k79_47 : am_cd am_x 79 47 = some (.invokestatic 169, 3, 5, 0, .null) := by decide +kernel
theorem k79_50 : am_cd am_x 79 50 = some (.iload_n 2, 1, 0, 0, .null) := by decide +kernel
theorem k79_51 : am_cd am_x 79 51 = some (.iastore, 1, 0, 0, .null) := by decide +kernel
theorem k79_52 : am_cd am_x 79 52 = some (.return_, 1, 0, 0, .null) := by decide +kernel
theorem k80_0 : am_cd am_x 80 0 = some (.aload_n 0, 1, 0, 0, .null) := by decide +kernel
theorem k80_1 : am_cd am_x 80 1 = some (.getfield 32, 3, 6, 4, .null) := by decide +kernel
theorem k80_4 : am_cd am_x 80 4 = some (.iconst 4, 1, 0, 0, .null) := by decide +kernel
theorem k80_5 : am_cd am_x 80 5 = some (.ishr, 1, 0, 0, .null) := by decide +kernel
theorem k80_6 : am_cd am_x 80 6 = some (.iconst 1, 1, 0, 0, .null) := by decide +kernel
theorem k80_7 : am_cd am_x 80 7 = some (.iand, 1, 0, 0, .null) := by decide +kernel
theorem k80_8 : am_cd am_x 80 8 = some (.iconst 1, 1, 0, 0, .null) := by decide +kernel
theorem k80_9 : am_cd am_x 80 9 = some (.if_icmp .ne 7, 3, 16, 0, .null) := by decide +kernel
theorem k80_12 : am_cd am_x 80 12 = some (.iconst 1, 1, 0, 0, .null) := by decide +kernel
theorem k80_13 : am_cd am_x 80 13 = some (.goto 4, 3, 17, 0, .null) := by decide +kernel
theorem k80_16 : am_cd am_x 80 16 = some (.iconst 0, 1, 0, 0, .null) := by decide +kernel
theorem k80_17 : am_cd am_x 80 17 = some (.istore_n 1, 1, 0, 0, .null) := by decide +kernel
theorem k80_18 : am_cd am_x 80 18 = some (.aload_n 0, 1, 0, 0, .null) := by decide +kernel
theorem k80_19 : am_cd am_x 80 19 = some (.getfield 35, 3, 6, 7, .null) := by decide +kernel
theorem k80_22 : am_cd am_x 80 22 = some (.aload_n 0, 1, 0, 0, .null) := by decide +kernel
theorem k80_23 : am_cd am_x 80 23 = some (.getfield 21, 3, 6, 1, .null) := by decide +kernel
theorem k80_26 : am_cd am_x 80 26 = some (.getfield 146, 3, 0, 0, .null) := by decide +kernel
theorem k80_29 : am_cd am_x 80 29 = some (.if_icmp .gt 73, 3, 102, 0, .null) := by decide +kernel
theorem k80_32 : am_cd am_x 80 32 = some (.aload_n 0, 1, 0, 0, .null) := by decide +kernel
theorem k80_33 : am_cd am_x 80 33 = some (.getfield 38, 3, 6, 8, .null) := by decide +kernel
theorem k80_36 : am_cd am_x 80 36 = some (.aload_n 0, 1, 0, 0, .null) := by decide +kernel
theorem k80_37 : am_cd am_x 80 37 = some (.getfield 21, 3, 6, 1, .null) := by decide +kernel
theorem k80_40 : am_cd am_x 80 40 = some (.getfield 149, 3, 0, 1, .null) := by decide +kernel
theorem k80_43 : am_cd am_x 80 43 = some (.if_icmp .gt 59, 3, 102, 0, .null) := by decide +kernel
theorem k80_46 : am_cd am_x 80 46 = some (.aload_n 0, 1, 0, 0, .null) := by decide +kernel
theorem k80_47 : am_cd am_x 80 47 = some (.getfield 41, 3, 6, 9, .null) := by decide +kernel
theorem k80_50 : am_cd am_x 80 50 = some (.aload_n 0, 1, 0, 0, .null) := by decide +kernel
theorem k80_51 : am_cd am_x 80 51 = some (.getfield 21, 3, 6, 1, .null) := by decide +kernel
theorem k80_54 : am_cd am_x 80 54 = some (.getfield 150, 3, 0, 2, .null) := by decide +kernel
theorem k80_57 : am_cd am_x 80 57 = some (.if_icmp .gt 45, 3, 102, 0, .null) := by decide +kernel
theorem k80_60 : am_cd am_x 80 60 = some (.aload_n 0, 1, 0, 0, .null) := by decide +kernel
theorem k80_61 : am_cd am_x 80 61 = some (.getfield 21, 3, 6, 1, .null) := by decide +kernel
theorem k80_64 : am_cd am_x 80 64 = some (.getfield 160, 3, 0, 5, .null) := by decide +kernel
theorem k80_67 : am_cd am_x 80 67 = some (.aload_n 0, 1, 0, 0, .null) := by decide +kernel
theorem k80_68 : am_cd am_x 80 68 = some (.getfield 21, 3, 6, 1, .null) := by decide +kernel
theorem k80_71 : am_cd am_x 80 71 = some (.getfield 157, 3, 0, 4, .null) := by decide +kernel
theorem k80_74 : am_cd am_x 80 74 = some (.ishr, 1, 0, 0, .null) := by decide +kernel
theorem k80_75 : am_cd am_x 80 75 = some (.ifCond .ne 27, 3, 102, 0, .null) := by decide +kernel
theorem k80_78 : am_cd am_x 80 78 = some (.iload_n 1, 1, 0, 0, .null) := by decide +kernel
theorem k80_79 : am_cd am_x 80 79 = some (.ifCond .eq 27, 3, 106, 0, .null) := by decide +kernel
theorem k80_82 : am_cd am_x 80 82 = some (.aload_n 0, 1, 0, 0, .null) := by decide +kernel
theorem k80_83 : am_cd am_x 80 83 = some (.getfield 21, 3, 6, 1, .null) := by decide +kernel
theorem k80_86 : am_cd am_x 80 86 = some (.getfield 133, 3, 0, 6, .null) := by decide +kernel
theorem k80_89 : am_cd am_x 80 89 = some (.aload_n 0, 1, 0, 0, .null) := by decide +kernel
theorem k80_90 : am_cd am_x 80 90 = some (.getfield 21, 3, 6, 1, .null) := by decide +kernel
theorem k80_93 : am_cd am_x 80 93 = some (.invokevirtual 172, 3, 11, 0, .null) := by decide +kernel
theorem k80_96 : am_cd am_x 80 96 = some (.iconst (-1), 1, 0, 0, .null) := by decide +kernel
theorem k80_97 : am_cd am_x 80 97 = some (.ixor, 1, 0, 0, .null) := by decide +kernel
theorem k80_98 : am_cd am_x 80 98 = some (.iand, 1, 0, 0, .null) := by decide +kernel
theorem k80_99 : am_cd am_x 80 99 = some (.ifCond .eq 7, 3, 106, 0, .null) := by decide +kernel
theorem k80_102 : am_cd am_x 80 102 = some (.iconst 1, 1, 0, 0, .null) := by decide +kernel
theorem k80_103 : am_cd am_x 80 103 = some (.goto 4, 3, 107, 0, .null) := by decide +kernel
theorem k80_106 : am_cd am_x 80 106 = some (.iconst 0, 1, 0, 0, .null) := by decide +kernel
theorem k80_107 : am_cd am_x 80 107 = some (.ireturn, 1, 0, 0, .null) := by decide +kernel
theorem k82_0 : am_cd am_x 82 0 = some (.iload_n 1, 1, 0, 0, .null) := by decide +kernel
theorem k82_1 : am_cd am_x 82 1 = some (.ifCond .lt 9, 3, 10, 0, .null) := by decide +kernel
theorem k82_4 : am_cd am_x 82 4 = some (.iload_n 1, 1, 0, 0, .null) := by decide +kernel
theorem k82_5 : am_cd am_x 82 5 = some (.bipush 127, 2, 0, 0, .null) := by decide +kernel
theorem k82_7 : am_cd am_x 82 7 = some (.if_icmp .le 5, 3, 12, 0, .null) := by decide +kernel
theorem k82_10 : am_cd am_x 82 10 = some (.iconst (-1), 1, 0, 0, .null) := by decide +kernel
theorem k82_11 : am_cd am_x 82 11 = some (.ireturn, 1, 0, 0, .null) := by decide +kernel
theorem k82_12 : am_cd am_x 82 12 = some (.aload_n 0, 1, 0, 0, .null) := by decide +kernel
theorem k82_13 : am_cd am_x 82 13 = some (.getfield 10, 3, 7, 0, .null) := by decide +kernel
theorem k82_16 : am_cd am_x 82 16 = some (.getfield 52, 3, 6, 0, .null) := by decide +kernel
theorem k82_19 : am_cd am_x 82 19 = some (.iload_n 1, 1, 0, 0, .null) := by decide +kernel
theorem k82_20 : am_cd am_x 82 20 = some (.invokevirtual 56, 3, 57, 5, .null) := by decide +kernel
theorem k82_23 : am_cd am_x 82 23 = some (.ifCond .eq 16, 3, 39, 0, .null) := by decide +kernel
theorem k82_26 : am_cd am_x 82 26 = some (.aload_n 0, 1, 0, 0, .null) := by decide +kernel
theorem k82_27 : am_cd am_x 82 27 = some (.getfield 10, 3, 7, 0, .null) := by decide +kernel
theorem k82_30 : am_cd am_x 82 30 = some (.getfield 52, 3, 6, 0, .null) := by decide +kernel
theorem k82_33 : am_cd am_x 82 33 = some (.getfield 62, 3, 5, 1, .null) := by decide +kernel
theorem k82_36 : am_cd am_x 82 36 = some (.goto 5, 3, 41, 0, .null) := by decide +kernel
theorem k82_39 : am_cd am_x 82 39 = some (.bipush (-3), 2, 0, 0, .null) := by decide +kernel
theorem k82_41 : am_cd am_x 82 41 = some (.ireturn, 1, 0, 0, .null) := by decide +kernel
theorem k83_0 : am_cd am_x 83 0 = some (.aload_n 0, 1, 0, 0, .null) := by decide +kernel
theorem k83_1 : am_cd am_x 83 1 = some (.getfield 10, 3, 7, 0, .null) := by decide +kernel
theorem k83_4 : am_cd am_x 83 4 = some (.getfield 52, 3, 6, 0, .null) := by decide +kernel
theorem k83_7 : am_cd am_x 83 7 = some (.getfield 62, 3, 5, 1, .null) := by decide +kernel
theorem k83_10 : am_cd am_x 83 10 = some (.istore_n 2, 1, 0, 0, .null) := by decide +kernel
theorem k83_11 : am_cd am_x 83 11 = some (.iload_n 1, 1, 0, 0, .null) := by decide +kernel
theorem k83_12 : am_cd am_x 83 12 = some (.ifCond .lt 8, 3, 20, 0, .null) := by decide +kernel
theorem k83_15 : am_cd am_x 83 15 = some (.iload_n 1, 1, 0, 0, .null) := by decide +kernel
theorem k83_16 : am_cd am_x 83 16 = some (.iload_n 2, 1, 0, 0, .null) := by decide +kernel
theorem k83_17 : am_cd am_x 83 17 = some (.if_icmp .le 5, 3, 22, 0, .null) := by decide +kernel
theorem k83_20 : am_cd am_x 83 20 = some (.iconst (-1), 1, 0, 0, .null) := by decide +kernel
theorem k83_21 : am_cd am_x 83 21 = some (.ireturn, 1, 0, 0, .null) := by decide +kernel
theorem k83_22 : am_cd am_x 83 22 = some (.aload_n 0, 1, 0, 0, .null) := by decide +kernel
theorem k83_23 : am_cd am_x 83 23 = some (.getfield 10, 3, 7, 0, .null) := by decide +kernel
theorem k83_26 : am_cd am_x 83 26 = some (.getfield 52, 3, 6, 0, .null) := by decide +kernel
theorem k83_29 : am_cd am_x 83 29 = some (.iload_n 1, 1, 0, 0, .null) := by decide +kernel
theorem k83_30 : am_cd am_x 83 30 = some (.putfield 62, 3, 5, 1, .int 0) := by decide +kernel
theorem k83_33 : am_cd am_x 83 33 = some (.iload_n 2, 1, 0, 0, .null) := by decide +kernel
theorem k83_34 : am_cd am_x 83 34 = some (.ireturn, 1, 0, 0, .null) := by decide +kernel
theorem k84_0 : am_cd am_x 84 0 = some (.aload_n 0, 1, 0, 0, .null) := by decide +kernel
theorem k84_1 : am_cd am_x 84 1 = some (.getfield 10, 3, 7, 0, .null) := by decide +kernel
theorem k84_4 : am_cd am_x 84 4 = some (.invokevirtual 66, 3, 66, 6, .null) := by decide +kernel
theorem k84_7 : am_cd am_x 84 7 = some (.istore_n 1, 1, 0, 0, .null) := by decide +kernel
theorem k84_8 : am_cd am_x 84 8 = some (.aload_n 0, 1, 0, 0, .null) := by decide +kernel
theorem k84_9 : am_cd am_x 84 9 = some (.getfield 10, 3, 7, 0, .null) := by decide +kernel
theorem k84_12 : am_cd am_x 84 12 = some (.getfield 52, 3, 6, 0, .null) := by decide +kernel
theorem k84_15 : am_cd am_x 84 15 = some (.iconst 0, 1, 0, 0, .null) := by decide +kernel
theorem k84_16 : am_cd am_x 84 16 = some (.putfield 62, 3, 5, 1, .int 0) := by decide +kernel
theorem k84_19 : am_cd am_x 84 19 = some (.aload_n 0, 1, 0, 0, .null) := by decide +kernel
theorem k84_20 : am_cd am_x 84 20 = some (.aload_n 0, 1, 0, 0, .null) := by decide +kernel
theorem k84_21 : am_cd am_x 84 21 = some (.getfield 10, 3, 7, 0, .null) := by decide +kernel
theorem k84_24 : am_cd am_x 84 24 = some (.getfield 70, 3, 6, 2, .null) := by decide +kernel
theorem k84_27 : am_cd am_x 84 27 = some (.putfield 73, 3, 7, 1, .int 0) := by decide +kernel
theorem k84_30 : am_cd am_x 84 30 = some (.aload_n 0, 1, 0, 0, .null) := by decide +kernel
theorem k84_31 : am_cd am_x 84 31 = some (.getfield 73, 3, 7, 1, .null) := by decide +kernel
theorem k84_34 : am_cd am_x 84 34 = some (.ifCond .eq 14, 3, 48, 0, .null) := by decide +kernel
theorem k84_37 : am_cd am_x 84 37 = some (.bipush (-10), 2, 0, 0, .null) := by decide +kernel
theorem k84_39 : am_cd am_x 84 39 = some (.aload_n 0, 1, 0, 0, .null) := by decide +kernel
theorem k84_40 : am_cd am_x 84 40 = some (.getfield 10, 3, 7, 0, .null) := by decide +kernel
theorem k84_43 : am_cd am_x 84 43 = some (.getfield 76, 3, 6, 3, .null) := by decide +kernel
theorem k84_46 : am_cd am_x 84 46 = some (.isub, 1, 0, 0, .null) := by decide +kernel
theorem k84_47 : am_cd am_x 84 47 = some (.ireturn, 1, 0, 0, .null) := by decide +kernel
theorem k84_48 : am_cd am_x 84 48 = some (.aload_n 0, 1, 0, 0, .null) := by decide +kernel
theorem k84_49 : am_cd am_x 84 49 = some (.getfield 19, 3, 7, 2, .null) := by decide +kernel
theorem k84_52 : am_cd am_x 84 52 = some (.aload_n 0, 1, 0, 0, .null) := by decide +kernel
theorem k84_53 : am_cd am_x 84 53 = some (.getfield 10, 3, 7, 0, .null) := by decide +kernel
theorem k84_56 : am_cd am_x 84 56 = some (.getfield 79, 3, 6, 1, .null) := by decide +kernel
theorem k84_59 : am_cd am_x 84 59 = some (.invokevirtual 82, 3, 4, 0, .null) := by decide +kernel
theorem k84_62 : am_cd am_x 84 62 = some (.iconst 0, 1, 0, 0, .null) := by decide +kernel
theorem k84_63 : am_cd am_x 84 63 = some (.istore_n 2, 1, 0, 0, .null) := by decide +kernel
theorem k84_64 : am_cd am_x 84 64 = some (.iload_n 2, 1, 0, 0, .null) := by decide +kernel
theorem k84_65 : am_cd am_x 84 65 = some (.iconst 2, 1, 0, 0, .null) := by decide +kernel
theorem k84_66 : am_cd am_x 84 66 = some (.if_icmp .ge 16, 3, 82, 0, .null) := by decide +kernel
theorem k84_69 : am_cd am_x 84 69 = some (.aload_n 0, 1, 0, 0, .null) := by decide +kernel
theorem k84_70 : am_cd am_x 84 70 = some (.getfield 27, 3, 7, 4, .null) := by decide +kernel
theorem k84_73 : am_cd am_x 84 73 = some (.iload_n 2, 1, 0, 0, .null) := by decide +kernel
theorem k84_74 : am_cd am_x 84 74 = some (.iconst 0, 1, 0, 0, .null) := by decide +kernel
theorem k84_75 : am_cd am_x 84 75 = some (.bastore, 1, 0, 0, .null) := by decide +kernel
theorem k84_76 : am_cd am_x 84 76 = some (.iinc 2 1, 3, 0, 0, .null) := by decide +kernel
theorem k84_79 : am_cd am_x 84 79 = some (.goto (-15), 3, 64, 0, .null) := by decide +kernel
theorem k84_82 : am_cd am_x 84 82 = some (.iload_n 1, 1, 0, 0, .null) := by decide +kernel
theorem k84_83 : am_cd am_x 84 83 = some (.ireturn, 1, 0, 0, .null) := by decide +kernel
theorem k85_0 : am_cd am_x 85 0 = some (.aload_n 0, 1, 0, 0, .null) := by decide +kernel
theorem k85_1 : am_cd am_x 85 1 = some (.getfield 73, 3, 7, 1, .null) := by decide +kernel
theorem k85_4 : am_cd am_x 85 4 = some (.ireturn, 1, 0, 0, .null) := by decide +kernel
theorem k86_0 : am_cd am_x 86 0 = some (.iload_n 1, 1, 0, 0, .null) := by decide +kernel
theorem k86_1 : am_cd am_x 86 1 = some (.tableswitch 112 0 7 #[47, 55, 63, 71, 79, 87, 95, 103], 47, 0, 0, .null) := by decide +kernel
theorem k86_48 : am_cd am_x 86 48 = some (.aload_n 0, 1, 0, 0, .null) := by decide +kernel
theorem k86_49 : am_cd am_x 86 49 = some (.getfield 19, 3, 7, 2, .null) := by decide +kernel
theorem k86_52 : am_cd am_x 86 52 = some (.getfield 86, 3, 0, 0, .null) := by decide +kernel
theorem k86_55 : am_cd am_x 86 55 = some (.ireturn, 1, 0, 0, .null) := by decide +kernel
theorem k86_56 : am_cd am_x 86 56 = some (.aload_n 0, 1, 0, 0, .null) := by decide +kernel
theorem k86_57 : am_cd am_x 86 57 = some (.getfield 19, 3, 7, 2, .null) := by decide +kernel
theorem k86_60 : am_cd am_x 86 60 = some (.getfield 89, 3, 0, 1, .null) := by decide +kernel
theorem k86_63 : am_cd am_x 86 63 = some (.ireturn, 1, 0, 0, .null) := by decide +kernel
theorem k86_64 : am_cd am_x 86 64 = some (.aload_n 0, 1, 0, 0, .null) := by decide +kernel
theorem k86_65 : am_cd am_x 86 65 = some (.getfield 19, 3, 7, 2, .null) := by decide +kernel
theorem k86_68 : am_cd am_x 86 68 = some (.getfield 90, 3, 0, 2, .null) := by decide +kernel
theorem k86_71 : am_cd am_x 86 71 = some (.ireturn, 1, 0, 0, .null) := by decide +kernel
theorem k86_72 : am_cd am_x 86 72 = some (.aload_n 0, 1, 0, 0, .null) := by decide +kernel
theorem k86_73 : am_cd am_x 86 73 = some (.getfield 19, 3, 7, 2, .null) := by decide +kernel
theorem k86_76 : am_cd am_x 86 76 = some (.getfield 93, 3, 0, 3, .null) := by decide +kernel
theorem k86_79 : am_cd am_x 86 79 = some (.ireturn, 1, 0, 0, .null) := by decide +kernel
theorem k86_80 : am_cd am_x 86 80 = some (.aload_n 0, 1, 0, 0, .null) := by decide +kernel
theorem k86_81 : am_cd am_x 86 81 = some (.getfield 19, 3, 7, 2, .null) := by decide +kernel
theorem k86_84 : am_cd am_x 86 84 = some (.getfield 96, 3, 0, 4, .null) := by decide +kernel
theorem k86_87 : am_cd am_x 86 87 = some (.ireturn, 1, 0, 0, .null) := by decide +kernel
theorem k86_88 : am_cd am_x 86 88 = some (.aload_n 0, 1, 0, 0, .null) := by decide +kernel
theorem k86_89 : am_cd am_x 86 89 = some (.getfield 19, 3, 7, 2, .null) := by decide +kernel
theorem k86_92 : am_cd am_x 86 92 = some (.getfield 99, 3, 0, 5, .null) := by decide +kernel
theorem k86_95 : am_cd am_x 86 95 = some (.ireturn, 1, 0, 0, .null) := by decide +kernel
theorem k86_96 : am_cd am_x 86 96 = some (.aload_n 0, 1, 0, 0, .null) := by decide +kernel
theorem k86_97 : am_cd am_x 86 97 = some (.getfield 19, 3, 7, 2, .null) := by decide +kernel
theorem k86_100 : am_cd am_x 86 100 = some (.getfield 102, 3, 0, 6, .null) := by decide +kernel
theorem k86_103 : am_cd am_x 86 103 = some (.ireturn, 1, 0, 0, .null) := by decide +kernel
theorem k86_104 : am_cd am_x 86 104 = some (.aload_n 0, 1, 0, 0, .null) := by decide +kernel
theorem k86_105 : am_cd am_x 86 105 = some (.getfield 19, 3, 7, 2, .null) := by decide +kernel
theorem k86_108 : am_cd am_x 86 108 = some (.iconst 2, 1, 0, 0, .null) := by decide +kernel
theorem k86_109 : am_cd am_x 86 109 = some (.invokevirtual 105, 3, 13, 0, .null) := by decide +kernel
theorem k86_112 : am_cd am_x 86 112 = some (.ireturn, 1, 0, 0, .null) := by decide +kernel
theorem k86_113 : am_cd am_x 86 113 = some (.iconst (-1), 1, 0, 0, .null) := by decide +kernel
theorem k86_114 : am_cd am_x 86 114 = some (.ireturn, 1, 0, 0, .null) := by decide +kernel
theorem k87_0 : am_cd am_x 87 0 = some (.aload_n 0, 1, 0, 0, .null) := by decide +kernel
theorem k87_1 : am_cd am_x 87 1 = some (.getfield 19, 3, 7, 2, .null) := by decide +kernel
theorem k87_4 : am_cd am_x 87 4 = some (.iload_n 1, 1, 0, 0, .null) := by decide +kernel
theorem k87_5 : am_cd am_x 87 5 = some (.iload_n 2, 1, 0, 0, .null) := by decide +kernel
theorem k87_6 : am_cd am_x 87 6 = some (.invokevirtual 109, 3, 8, 0, .null) := by decide +kernel
theorem k87_9 : am_cd am_x 87 9 = some (.ifCond .ne 5, 3, 14, 0, .null) := by decide +kernel
theorem k87_12 : am_cd am_x 87 12 = some (.iconst (-1), 1, 0, 0, .null) := by decide +kernel
theorem k87_13 : am_cd am_x 87 13 = some (.ireturn, 1, 0, 0, .null) := by decide +kernel
theorem k87_14 : am_cd am_x 87 14 = some (.iload_n 3, 1, 0, 0, .null) := by decide +kernel
theorem k87_15 : am_cd am_x 87 15 = some (.tableswitch 93 0 2 #[25, 39, 53], 25, 0, 0, .null) := by decide +kernel
theorem k87_40 : am_cd am_x 87 40 = some (.aload_n 0, 1, 0, 0, .null) := by decide +kernel
theorem k87_41 : am_cd am_x 87 41 = some (.getfield 19, 3, 7, 2, .null) := by decide +kernel
theorem k87_44 : am_cd am_x 87 44 = some (.getfield 113, 3, 0, 7, .null) := by decide +kernel
theorem k87_47 : am_cd am_x 87 47 = some (.iload_n 1, 1, 0, 0, .null) := by decide +kernel
theorem k87_48 : am_cd am_x 87 48 = some (.iload_n 2, 1, 0, 0, .null) := by decide +kernel
theorem k87_49 : am_cd am_x 87 49 = some (.invokestatic 117, 3, 5, 0, .null) := by decide +kernel
theorem k87_52 : am_cd am_x 87 52 = some (.iaload, 1, 0, 0, .null) := by decide +kernel
theorem k87_53 : am_cd am_x 87 53 = some (.ireturn, 1, 0, 0, .null) := by decide +kernel
theorem k87_54 : am_cd am_x 87 54 = some (.aload_n 0, 1, 0, 0, .null) := by decide +kernel
theorem k87_55 : am_cd am_x 87 55 = some (.getfield 19, 3, 7, 2, .null) := by decide +kernel
theorem k87_58 : am_cd am_x 87 58 = some (.getfield 121, 3, 0, 8, .null) := by decide +kernel
theorem k87_61 : am_cd am_x 87 61 = some (.iload_n 1, 1, 0, 0, .null) := by decide +kernel
theorem k87_62 : am_cd am_x 87 62 = some (.iload_n 2, 1, 0, 0, .null) := by decide +kernel
theorem k87_63 : am_cd am_x 87 63 = some (.invokestatic 117, 3, 5, 0, .null) := by decide +kernel
theorem k87_66 : am_cd am_x 87 66 = some (.iaload, 1, 0, 0, .null) := by decide +kernel
theorem k87_67 : am_cd am_x 87 67 = some (.ireturn, 1, 0, 0, .null) := by decide +kernel
theorem k87_68 : am_cd am_x 87 68 = some (.aload_n 0, 1, 0, 0, .null) := by decide +kernel
theorem k87_69 : am_cd am_x 87 69 = some (.getfield 19, 3, 7, 2, .null) := by decide +kernel
theorem k87_72 : am_cd am_x 87 72 = some (.iload_n 1, 1, 0, 0, .null) := by decide +kernel
theorem k87_73 : am_cd am_x 87 73 = some (.iload_n 2, 1, 0, 0, .null) := by decide +kernel
theorem k87_74 : am_cd am_x 87 74 = some (.aload_n 0, 1, 0, 0, .null) := by decide +kernel
theorem k87_75 : am_cd am_x 87 75 = some (.getfield 19, 3, 7, 2, .null) := by decide +kernel
theorem k87_78 : am_cd am_x 87 78 = some (.getfield 93, 3, 0, 3, .null) := by decide +kernel
theorem k87_81 : am_cd am_x 87 81 = some (.aload_n 0, 1, 0, 0, .null) := by decide +kernel
theorem k87_82 : am_cd am_x 87 82 = some (.getfield 19, 3, 7, 2, .null) := by decide +kernel
theorem k87_85 : am_cd am_x 87 85 = some (.iload_n 2, 1, 0, 0, .null) := by decide +kernel
theorem k87_86 : am_cd am_x 87 86 = some (.aload_n 0, 1, 0, 0, .null) := by decide +kernel
theorem k87_87 : am_cd am_x 87 87 = some (.getfield 19, 3, 7, 2, .null) := by decide +kernel
theorem k87_90 : am_cd am_x 87 90 = some (.getfield 93, 3, 0, 3, .null) := by decide +kernel
theorem k87_93 : am_cd am_x 87 93 = some (.invokevirtual 124, 3, 17, 0, .null) := by decide +kernel
theorem k87_96 : am_cd am_x 87 96 = some (.invokevirtual 127, 3, 18, 0, .null) := by decide +kernel
theorem k87_99 : am_cd am_x 87 99 = some (.ifCond .eq 7, 3, 106, 0, .null) := by decide +kernel
theorem k87_102 : am_cd am_x 87 102 = some (.iconst 1, 1, 0, 0, .null) := by decide +kernel
theorem k87_103 : am_cd am_x 87 103 = some (.goto 4, 3, 107, 0, .null) := by decide +kernel
theorem k87_106 : am_cd am_x 87 106 = some (.iconst 0, 1, 0, 0, .null) := by decide +kernel
theorem k87_107 : am_cd am_x 87 107 = some (.ireturn, 1, 0, 0, .null) := by decide +kernel
theorem k87_108 : am_cd am_x 87 108 = some (.iconst (-1), 1, 0, 0, .null) := by decide +kernel
theorem k87_109 : am_cd am_x 87 109 = some (.ireturn, 1, 0, 0, .null) := by decide +kernel
theorem k88_0 : am_cd am_x 88 0 = some (.aload_n 0, 1, 0, 0, .null) := by decide +kernel
theorem k88_1 : am_cd am_x 88 1 = some (.getfield 19, 3, 7, 2, .null) := by decide +kernel
theorem k88_4 : am_cd am_x 88 4 = some (.iload_n 1, 1, 0, 0, .null) := by decide +kernel
theorem k88_5 : am_cd am_x 88 5 = some (.invokevirtual 131, 3, 7, 0, .null) := by decide +kernel
theorem k88_8 : am_cd am_x 88 8 = some (.ifCond .eq 15, 3, 23, 0, .null) := by decide +kernel
theorem k88_11 : am_cd am_x 88 11 = some (.aload_n 0, 1, 0, 0, .null) := by decide +kernel
theorem k88_12 : am_cd am_x 88 12 = some (.getfield 19, 3, 7, 2, .null) := by decide +kernel
theorem k88_15 : am_cd am_x 88 15 = some (.getfield 134, 3, 0, 9, .null) := by decide +kernel
theorem k88_18 : am_cd am_x 88 18 = some (.iload_n 1, 1, 0, 0, .null) := by decide +kernel
theorem k88_19 : am_cd am_x 88 19 = some (.iaload, 1, 0, 0, .null) := by decide +kernel
theorem k88_20 : am_cd am_x 88 20 = some (.goto 4, 3, 24, 0, .null) := by decide +kernel
theorem k88_23 : am_cd am_x 88 23 = some (.iconst (-1), 1, 0, 0, .null) := by decide +kernel
theorem k88_24 : am_cd am_x 88 24 = some (.ireturn, 1, 0, 0, .null) := by decide +kernel
theorem k89_0 : am_cd am_x 89 0 = some (.iload_n 1, 1, 0, 0, .null) := by decide +kernel
theorem k89_1 : am_cd am_x 89 1 = some (.ifCond .lt 29, 3, 30, 0, .null) := by decide +kernel
theorem k89_4 : am_cd am_x 89 4 = some (.iload_n 1, 1, 0, 0, .null) := by decide +kernel
theorem k89_5 : am_cd am_x 89 5 = some (.aload_n 0, 1, 0, 0, .null) := by decide +kernel
theorem k89_6 : am_cd am_x 89 6 = some (.getfield 19, 3, 7, 2, .null) := by decide +kernel
theorem k89_9 : am_cd am_x 89 9 = some (.getfield 89, 3, 0, 1, .null) := by decide +kernel
theorem k89_12 : am_cd am_x 89 12 = some (.if_icmp .ge 18, 3, 30, 0, .null) := by decide +kernel
theorem k89_15 : am_cd am_x 89 15 = some (.iload_n 2, 1, 0, 0, .null) := by decide +kernel
theorem k89_16 : am_cd am_x 89 16 = some (.ifCond .lt 14, 3, 30, 0, .null) := by decide +kernel
theorem k89_19 : am_cd am_x 89 19 = some (.iload_n 2, 1, 0, 0, .null) := by decide +kernel
theorem k89_20 : am_cd am_x 89 20 = some (.aload_n 0, 1, 0, 0, .null) := by decide +kernel
theorem k89_21 : am_cd am_x 89 21 = some (.getfield 19, 3, 7, 2, .null) := by decide +kernel
theorem k89_24 : am_cd am_x 89 24 = some (.getfield 90, 3, 0, 2, .null) := by decide +kernel
theorem k89_27 : am_cd am_x 89 27 = some (.if_icmp .lt 5, 3, 32, 0, .null) := by decide +kernel
theorem k89_30 : am_cd am_x 89 30 = some (.iconst (-1), 1, 0, 0, .null) := by decide +kernel
theorem k89_31 : am_cd am_x 89 31 = some (.ireturn, 1, 0, 0, .null) := by decide +kernel
theorem k89_32 : am_cd am_x 89 32 = some (.aload_n 0, 1, 0, 0, .null) := by decide +kernel
theorem k89_33 : am_cd am_x 89 33 = some (.getfield 19, 3, 7, 2, .null) := by decide +kernel
theorem k89_36 : am_cd am_x 89 36 = some (.iload_n 1, 1, 0, 0, .null) := by decide +kernel
theorem k89_37 : am_cd am_x 89 37 = some (.iload_n 2, 1, 0, 0, .null) := by decide +kernel
theorem k89_38 : am_cd am_x 89 38 = some (.invokevirtual 137, 3, 16, 0, .null) := by decide +kernel
theorem k89_41 : am_cd am_x 89 41 = some (.ireturn, 1, 0, 0, .null) := by decide +kernel
theorem k90_0 : am_cd am_x 90 0 = some (.iload_n 1, 1, 0, 0, .null) := by decide +kernel
theorem k90_1 : am_cd am_x 90 1 = some (.ifCond .lt 8, 3, 9, 0, .null) := by decide +kernel
theorem k90_4 : am_cd am_x 90 4 = some (.iload_n 1, 1, 0, 0, .null) := by decide +kernel
theorem k90_5 : am_cd am_x 90 5 = some (.iconst 2, 1, 0, 0, .null) := by decide +kernel
theorem k90_6 : am_cd am_x 90 6 = some (.if_icmp .le 5, 3, 11, 0, .null) := by decide +kernel
theorem k90_9 : am_cd am_x 90 9 = some (.iconst (-1), 1, 0, 0, .null) := by decide +kernel
theorem k90_10 : am_cd am_x 90 10 = some (.ireturn, 1, 0, 0, .null) := by decide +kernel
theorem k90_11 : am_cd am_x 90 11 = some (.iconst 0, 1, 0, 0, .null) := by decide +kernel
theorem k90_12 : am_cd am_x 90 12 = some (.istore_n 2, 1, 0, 0, .null) := by decide +kernel
theorem k90_13 : am_cd am_x 90 13 = some (.iconst 0, 1, 0, 0, .null) := by decide +kernel
theorem k90_14 : am_cd am_x 90 14 = some (.istore_n 3, 1, 0, 0, .null) := by decide +kernel
theorem k90_15 : am_cd am_x 90 15 = some (.iload_n 3, 1, 0, 0, .null) := by decide +kernel
theorem k90_16 : am_cd am_x 90 16 = some (.aload_n 0, 1, 0, 0, .null) := by decide +kernel
theorem k90_17 : am_cd am_x 90 17 = some (.getfield 19, 3, 7, 2, .null) := by decide +kernel
theorem k90_20 : am_cd am_x 90 20 = some (.getfield 86, 3, 0, 0, .null) := by decide +kernel
theorem k90_23 : am_cd am_x 90 23 = some (.if_icmp .ge 24, 3, 47, 0, .null) := by decide +kernel
theorem k90_26 : am_cd am_x 90 26 = some (.aload_n 0, 1, 0, 0, .null) := by decide +kernel
theorem k90_27 : am_cd am_x 90 27 = some (.getfield 19, 3, 7, 2, .null) := by decide +kernel
theorem k90_30 : am_cd am_x 90 30 = some (.iload_n 3, 1, 0, 0, .null) := by decide +kernel
theorem k90_31 : am_cd am_x 90 31 = some (.iload_n 1, 1, 0, 0, .null) := by decide +kernel
theorem k90_32 : am_cd am_x 90 32 = some (.invokevirtual 140, 3, 20, 0, .null) := by decide +kernel
theorem k90_35 : am_cd am_x 90 35 = some (.ifCond .eq 6, 3, 41, 0, .null) := by decide +kernel
theorem k90_38 : am_cd am_x 90 38 = some (.iinc 2 1, 3, 0, 0, .null) := by decide +kernel
theorem k90_41 : am_cd am_x 90 41 = some (.iinc 3 1, 3, 0, 0, .null) := by decide +kernel
theorem k90_44 : am_cd am_x 90 44 = some (.goto (-29), 3, 15, 0, .null) := by decide +kernel
theorem k90_47 : am_cd am_x 90 47 = some (.iload_n 2, 1, 0, 0, .null) := by decide +kernel
theorem k90_48 : am_cd am_x 90 48 = some (.ireturn, 1, 0, 0, .null) := by decide +kernel
theorem k91_0 : am_cd am_x 91 0 = some (.iload_n 1, 1, 0, 0, .null) := by decide +kernel
theorem k91_1 : am_cd am_x 91 1 = some (.iconst 1, 1, 0, 0, .null) := by decide +kernel
theorem k91_2 : am_cd am_x 91 2 = some (.if_icmp .lt 25, 3, 27, 0, .null) := by decide +kernel
theorem k91_5 : am_cd am_x 91 5 = some (.iload_n 1, 1, 0, 0, .null) := by decide +kernel
theorem k91_6 : am_cd am_x 91 6 = some (.bipush 8, 2, 0, 0, .null) := by decide +kernel
theorem k91_8 : am_cd am_x 91 8 = some (.if_icmp .gt 19, 3, 27, 0, .null) := by decide +kernel
theorem k91_11 : am_cd am_x 91 11 = some (.iload_n 2, 1, 0, 0, .null) := by decide +kernel
theorem k91_12 : am_cd am_x 91 12 = some (.invokestatic 143, 3, 96, 0, .null) := by decide +kernel
theorem k91_15 : am_cd am_x 91 15 = some (.ifCond .eq 12, 3, 27, 0, .null) := by decide +kernel
theorem k91_18 : am_cd am_x 91 18 = some (.iload_n 3, 1, 0, 0, .null) := by decide +kernel
theorem k91_19 : am_cd am_x 91 19 = some (.ifCond .lt 8, 3, 27, 0, .null) := by decide +kernel
theorem k91_22 : am_cd am_x 91 22 = some (.iload_n 3, 1, 0, 0, .null) := by decide +kernel
theorem k91_23 : am_cd am_x 91 23 = some (.iconst 1, 1, 0, 0, .null) := by decide +kernel
theorem k91_24 : am_cd am_x 91 24 = some (.if_icmp .le 5, 3, 29, 0, .null) := by decide +kernel
theorem k91_27 : am_cd am_x 91 27 = some (.iconst (-1), 1, 0, 0, .null) := by decide +kernel
theorem k91_28 : am_cd am_x 91 28 = some (.ireturn, 1, 0, 0, .null) := by decide +kernel
theorem k91_29 : am_cd am_x 91 29 = some (.aload_n 0, 1, 0, 0, .null) := by decide +kernel
theorem k91_30 : am_cd am_x 91 30 = some (.getfield 19, 3, 7, 2, .null) := by decide +kernel
theorem k91_33 : am_cd am_x 91 33 = some (.iload_n 1, 1, 0, 0, .null) := by decide +kernel
theorem k91_34 : am_cd am_x 91 34 = some (.iload_n 2, 1, 0, 0, .null) := by decide +kernel
theorem k91_35 : am_cd am_x 91 35 = some (.iload_n 3, 1, 0, 0, .null) := by decide +kernel
theorem k91_36 : am_cd am_x 91 36 = some (.iconst 1, 1, 0, 0, .null) := by decide +kernel
theorem k91_37 : am_cd am_x 91 37 = some (.if_icmp .ne 7, 3, 44, 0, .null) := by decide +kernel
theorem k91_40 : am_cd am_x 91 40 = some (.iconst 1, 1, 0, 0, .null) := by decide +kernel
theorem k91_41 : am_cd am_x 91 41 = some (.goto 4, 3, 45, 0, .null) := by decide +kernel
theorem k91_44 : am_cd am_x 91 44 = some (.iconst 0, 1, 0, 0, .null) := by decide +kernel
theorem k91_45 : am_cd am_x 91 45 = some (.invokevirtual 146, 3, 25, 0, .null) := by decide +kernel
theorem k91_48 : am_cd am_x 91 48 = some (.ireturn, 1, 0, 0, .null) := by decide +kernel
theorem k92_0 : am_cd am_x 92 0 = some (.iload_n 1, 1, 0, 0, .null) := by decide +kernel
theorem k92_1 : am_cd am_x 92 1 = some (.invokestatic 143, 3, 96, 0, .null) := by decide +kernel
theorem k92_4 : am_cd am_x 92 4 = some (.ifCond .ne 5, 3, 9, 0, .null) := by decide +kernel
theorem k92_7 : am_cd am_x 92 7 = some (.iconst (-1), 1, 0, 0, .null) := by decide +kernel
theorem k92_8 : am_cd am_x 92 8 = some (.ireturn, 1, 0, 0, .null) := by decide +kernel
theorem k92_9 : am_cd am_x 92 9 = some (.iconst 1, 1, 0, 0, .null) := by decide +kernel
theorem k92_10 : am_cd am_x 92 10 = some (.istore_n 2, 1, 0, 0, .null) := by decide +kernel
theorem k92_11 : am_cd am_x 92 11 = some (.iload_n 2, 1, 0, 0, .null) := by decide +kernel
theorem k92_12 : am_cd am_x 92 12 = some (.bipush 8, 2, 0, 0, .null) := by decide +kernel
theorem k92_14 : am_cd am_x 92 14 = some (.if_icmp .gt 26, 3, 40, 0, .null) := by decide +kernel
theorem k92_17 : am_cd am_x 92 17 = some (.aload_n 0, 1, 0, 0, .null) := by decide +kernel
theorem k92_18 : am_cd am_x 92 18 = some (.getfield 19, 3, 7, 2, .null) := by decide +kernel
theorem k92_21 : am_cd am_x 92 21 = some (.iload_n 2, 1, 0, 0, .null) := by decide +kernel
theorem k92_22 : am_cd am_x 92 22 = some (.iload_n 1, 1, 0, 0, .null) := by decide +kernel
theorem k92_23 : am_cd am_x 92 23 = some (.iconst 1, 1, 0, 0, .null) := by decide +kernel
theorem k92_24 : am_cd am_x 92 24 = some (.invokevirtual 146, 3, 25, 0, .null) := by decide +kernel
theorem k92_27 : am_cd am_x 92 27 = some (.ifCond .le 7, 3, 34, 0, .null) := by decide +kernel
theorem k92_30 : am_cd am_x 92 30 = some (.iload_n 2, 1, 0, 0, .null) := by decide +kernel
theorem k92_31 : am_cd am_x 92 31 = some (.iconst 1, 1, 0, 0, .null) := by decide +kernel
theorem k92_32 : am_cd am_x 92 32 = some (.isub, 1, 0, 0, .null) := by decide +kernel
theorem k92_33 : am_cd am_x 92 33 = some (.ireturn, 1, 0, 0, .null) := by decide +kernel
theorem k92_34 : am_cd am_x 92 34 = some (.iinc 2 1, 3, 0, 0, .null) := by decide +kernel
theorem k92_37 : am_cd am_x 92 37 = some (.goto (-26), 3, 11, 0, .null) := by decide +kernel
theorem k92_40 : am_cd am_x 92 40 = some (.bipush 8, 2, 0, 0, .null) := by decide +kernel
theorem k92_42 : am_cd am_x 92 42 = some (.ireturn, 1, 0, 0, .null) := by decide +kernel
theorem k93_0 : am_cd am_x 93 0 = some (.aload_n 0, 1, 0, 0, .null) := by decide +kernel
theorem k93_1 : am_cd am_x 93 1 = some (.getfield 19, 3, 7, 2, .null) := by decide +kernel
theorem k93_4 : am_cd am_x 93 4 = some (.invokevirtual 150, 3, 12, 0, .null) := by decide +kernel
theorem k93_7 : am_cd am_x 93 7 = some (.istore_n 2, 1, 0, 0, .null) := by decide +kernel
theorem k93_8 : am_cd am_x 93 8 = some (.iload_n 1, 1, 0, 0, .null) := by decide +kernel
theorem k93_9 : am_cd am_x 93 9 = some (.iload_n 2, 1, 0, 0, .null) := by decide +kernel
theorem k93_10 : am_cd am_x 93 10 = some (.iconst (-1), 1, 0, 0, .null) := by decide +kernel
theorem k93_11 : am_cd am_x 93 11 = some (.ixor, 1, 0, 0, .null) := by decide +kernel
theorem k93_12 : am_cd am_x 93 12 = some (.iand, 1, 0, 0, .null) := by decide +kernel
theorem k93_13 : am_cd am_x 93 13 = some (.ifCond .eq 5, 3, 18, 0, .null) := by decide +kernel
theorem k93_16 : am_cd am_x 93 16 = some (.iconst (-1), 1, 0, 0, .null) := by decide +kernel
theorem k93_17 : am_cd am_x 93 17 = some (.ireturn, 1, 0, 0, .null) := by decide +kernel
theorem k93_18 : am_cd am_x 93 18 = some (.iload_n 2, 1, 0, 0, .null) := by decide +kernel
theorem k93_19 : am_cd am_x 93 19 = some (.iload_n 1, 1, 0, 0, .null) := by decide +kernel
theorem k93_20 : am_cd am_x 93 20 = some (.iconst (-1), 1, 0, 0, .null) := by decide +kernel
theorem k93_21 : am_cd am_x 93 21 = some (.ixor, 1, 0, 0, .null) := by decide +kernel
theorem k93_22 : am_cd am_x 93 22 = some (.iand, 1, 0, 0, .null) := by decide +kernel
theorem k93_23 : am_cd am_x 93 23 = some (.istore_n 3, 1, 0, 0, .null) := by decide +kernel
theorem k93_24 : am_cd am_x 93 24 = some (.aload_n 0, 1, 0, 0, .null) := by decide +kernel
theorem k93_25 : am_cd am_x 93 25 = some (.getfield 19, 3, 7, 2, .null) := by decide +kernel
theorem k93_28 : am_cd am_x 93 28 = some (.iload_n 1, 1, 0, 0, .null) := by decide +kernel
theorem k93_29 : am_cd am_x 93 29 = some (.invokevirtual 153, 3, 23, 0, .null) := by decide +kernel
theorem k93_32 : am_cd am_x 93 32 = some (.istore 4, 2, 0, 0, .null) := by decide +kernel
theorem k93_34 : am_cd am_x 93 34 = some (.iconst 1, 1, 0, 0, .null) := by decide +kernel
theorem k93_35 : am_cd am_x 93 35 = some (.istore 5, 2, 0, 0, .null) := by decide +kernel
theorem k93_37 : am_cd am_x 93 37 = some (.iload 5, 2, 0, 0, .null) := by decide +kernel
theorem k93_39 : am_cd am_x 93 39 = some (.iload_n 3, 1, 0, 0, .null) := by decide +kernel
theorem k93_40 : am_cd am_x 93 40 = some (.if_icmp .gt 38, 3, 78, 0, .null) := by decide +kernel
theorem k93_43 : am_cd am_x 93 43 = some (.iload 5, 2, 0, 0, .null) := by decide +kernel
theorem k93_45 : am_cd am_x 93 45 = some (.iload_n 3, 1, 0, 0, .null) := by decide +kernel
theorem k93_46 : am_cd am_x 93 46 = some (.iconst (-1), 1, 0, 0, .null) := by decide +kernel
theorem k93_47 : am_cd am_x 93 47 = some (.ixor, 1, 0, 0, .null) := by decide +kernel
theorem k93_48 : am_cd am_x 93 48 = some (.iand, 1, 0, 0, .null) := by decide +kernel
theorem k93_49 : am_cd am_x 93 49 = some (.ifCond .ne 23, 3, 72, 0, .null) := by decide +kernel
theorem k93_52 : am_cd am_x 93 52 = some (.aload_n 0, 1, 0, 0, .null) := by decide +kernel
theorem k93_53 : am_cd am_x 93 53 = some (.getfield 19, 3, 7, 2, .null) := by decide +kernel
theorem k93_56 : am_cd am_x 93 56 = some (.iload 5, 2, 0, 0, .null) := by decide +kernel
theorem k93_58 : am_cd am_x 93 58 = some (.invokevirtual 156, 3, 22, 0, .null) := by decide +kernel
theorem k93_61 : am_cd am_x 93 61 = some (.iload 4, 2, 0, 0, .null) := by decide +kernel
theorem k93_63 : am_cd am_x 93 63 = some (.iconst (-1), 1, 0, 0, .null) := by decide +kernel
theorem k93_64 : am_cd am_x 93 64 = some (.ixor, 1, 0, 0, .null) := by decide +kernel
theorem k93_65 : am_cd am_x 93 65 = some (.iand, 1, 0, 0, .null) := by decide +kernel
theorem k93_66 : am_cd am_x 93 66 = some (.ifCond .ne 6, 3, 72, 0, .null) := by decide +kernel
theorem k93_69 : am_cd am_x 93 69 = some (.iload 5, 2, 0, 0, .null) := by decide +kernel
theorem k93_71 : am_cd am_x 93 71 = some (.ireturn, 1, 0, 0, .null) := by decide +kernel
theorem k93_72 : am_cd am_x 93 72 = some (.iinc 5 1, 3, 0, 0, .null) := by decide +kernel
theorem k93_75 : am_cd am_x 93 75 = some (.goto (-38), 3, 37, 0, .null) := by decide +kernel
theorem k93_78 : am_cd am_x 93 78 = some (.bipush (-4), 2, 0, 0, .null) := by decide +kernel
theorem k93_80 : am_cd am_x 93 80 = some (.ireturn, 1, 0, 0, .null) := by decide +kernel
theorem k94_0 : am_cd am_x 94 0 = some (.aload_n 0, 1, 0, 0, .null) := by decide +kernel
theorem k94_1 : am_cd am_x 94 1 = some (.getfield 19, 3, 7, 2, .null) := by decide +kernel
theorem k94_4 : am_cd am_x 94 4 = some (.aload_n 0, 1, 0, 0, .null) := by decide +kernel
theorem k94_5 : am_cd am_x 94 5 = some (.getfield 19, 3, 7, 2, .null) := by decide +kernel
theorem k94_8 : am_cd am_x 94 8 = some (.getfield 93, 3, 0, 3, .null) := by decide +kernel
theorem k94_11 : am_cd am_x 94 11 = some (.invokevirtual 159, 3, 19, 0, .null) := by decide +kernel
theorem k94_14 : am_cd am_x 94 14 = some (.ireturn, 1, 0, 0, .null) := by decide +kernel
theorem k95_0 : am_cd am_x 95 0 = some (.iconst 0, 1, 0, 0, .null) := by decide +kernel
theorem k95_1 : am_cd am_x 95 1 = some (.istore_n 1, 1, 0, 0, .null) := by decide +kernel
theorem k95_2 : am_cd am_x 95 2 = some (.aload_n 0, 1, 0, 0, .null) := by decide +kernel
theorem k95_3 : am_cd am_x 95 3 = some (.getfield 19, 3, 7, 2, .null) := by decide +kernel
theorem k95_6 : am_cd am_x 95 6 = some (.iconst 0, 1, 0, 0, .null) := by decide +kernel
theorem k95_7 : am_cd am_x 95 7 = some (.invokevirtual 159, 3, 19, 0, .null) := by decide +kernel
theorem k95_10 : am_cd am_x 95 10 = some (.istore_n 2, 1, 0, 0, .null) := by decide +kernel
theorem k95_11 : am_cd am_x 95 11 = some (.aload_n 0, 1, 0, 0, .null) := by decide +kernel
theorem k95_12 : am_cd am_x 95 12 = some (.getfield 19, 3, 7, 2, .null) := by decide +kernel
theorem k95_15 : am_cd am_x 95 15 = some (.invokevirtual 162, 3, 10, 0, .null) := by decide +kernel
theorem k95_18 : am_cd am_x 95 18 = some (.istore_n 3, 1, 0, 0, .null) := by decide +kernel
theorem k95_19 : am_cd am_x 95 19 = some (.iconst 1, 1, 0, 0, .null) := by decide +kernel
theorem k95_20 : am_cd am_x 95 20 = some (.istore 4, 2, 0, 0, .null) := by decide +kernel
theorem k95_22 : am_cd am_x 95 22 = some (.iload 4, 2, 0, 0, .null) := by decide +kernel
theorem k95_24 : am_cd am_x 95 24 = some (.iload_n 3, 1, 0, 0, .null) := by decide +kernel
theorem k95_25 : am_cd am_x 95 25 = some (.if_icmp .gt 32, 3, 57, 0, .null) := by decide +kernel
theorem k95_28 : am_cd am_x 95 28 = some (.aload_n 0, 1, 0, 0, .null) := by decide +kernel
theorem k95_29 : am_cd am_x 95 29 = some (.getfield 19, 3, 7, 2, .null) := by decide +kernel
theorem k95_32 : am_cd am_x 95 32 = some (.iload 4, 2, 0, 0, .null) := by decide +kernel
theorem k95_34 : am_cd am_x 95 34 = some (.invokevirtual 159, 3, 19, 0, .null) := by decide +kernel
theorem k95_37 : am_cd am_x 95 37 = some (.istore 5, 2, 0, 0, .null) := by decide +kernel
theorem k95_39 : am_cd am_x 95 39 = some (.iload 5, 2, 0, 0, .null) := by decide +kernel
theorem k95_41 : am_cd am_x 95 41 = some (.iload_n 2, 1, 0, 0, .null) := by decide +kernel
theorem k95_42 : am_cd am_x 95 42 = some (.if_icmp .le 9, 3, 51, 0, .null) := by decide +kernel
theorem k95_45 : am_cd am_x 95 45 = some (.iload 5, 2, 0, 0, .null) := by decide +kernel
theorem k95_47 : am_cd am_x 95 47 = some (.istore_n 2, 1, 0, 0, .null) := by decide +kernel
theorem k95_48 : am_cd am_x 95 48 = some (.iload 4, 2, 0, 0, .null) := by decide +kernel
theorem k95_50 : am_cd am_x 95 50 = some (.istore_n 1, 1, 0, 0, .null) := by decide +kernel
theorem k95_51 : am_cd am_x 95 51 = some (.iinc 4 1, 3, 0, 0, .null) := by decide +kernel
theorem k95_54 : am_cd am_x 95 54 = some (.goto (-32), 3, 22, 0, .null) := by decide +kernel
theorem k95_57 : am_cd am_x 95 57 = some (.iload_n 1, 1, 0, 0, .null) := by decide +kernel
theorem k95_58 : am_cd am_x 95 58 = some (.ireturn, 1, 0, 0, .null) := by decide +kernel
theorem k96_0 : am_cd am_x 96 0 = some (.iload_n 0, 1, 0, 0, .null) := by decide +kernel
theorem k96_1 : am_cd am_x 96 1 = some (.ifCond .lt 13, 3, 14, 0, .null) := by decide +kernel
theorem k96_4 : am_cd am_x 96 4 = some (.iload_n 0, 1, 0, 0, .null) := by decide +kernel
theorem k96_5 : am_cd am_x 96 5 = some (.bipush 8, 2, 0, 0, .null) := by decide +kernel
theorem k96_7 : am_cd am_x 96 7 = some (.if_icmp .gt 7, 3, 14, 0, .null) := by decide +kernel
theorem k96_10 : am_cd am_x 96 10 = some (.iconst 1, 1, 0, 0, .null) := by decide +kernel
theorem k96_11 : am_cd am_x 96 11 = some (.goto 4, 3, 15, 0, .null) := by decide +kernel
theorem k96_14 : am_cd am_x 96 14 = some (.iconst 0, 1, 0, 0, .null) := by decide +kernel
theorem k96_15 : am_cd am_x 96 15 = some (.ireturn, 1, 0, 0, .null) := by decide +kernel
theorem k97_0 : am_cd am_x 97 0 = some (.aload_n 0, 1, 0, 0, .null) := by decide +kernel
theorem k97_1 : am_cd am_x 97 1 = some (.getfield 19, 3, 7, 2, .null) := by decide +kernel
theorem k97_4 : am_cd am_x 97 4 = some (.iload_n 1, 1, 0, 0, .null) := by decide +kernel
theorem k97_5 : am_cd am_x 97 5 = some (.iload_n 2, 1, 0, 0, .null) := by decide +kernel
theorem k97_6 : am_cd am_x 97 6 = some (.iload_n 3, 1, 0, 0, .null) := by decide +kernel
theorem k97_7 : am_cd am_x 97 7 = some (.invokevirtual 165, 3, 9, 0, .null) := by decide +kernel
theorem k97_10 : am_cd am_x 97 10 = some (.ifCond .ne 5, 3, 15, 0, .null) := by decide +kernel
theorem k97_13 : am_cd am_x 97 13 = some (.iconst (-1), 1, 0, 0, .null) := by decide +kernel
theorem k97_14 : am_cd am_x 97 14 = some (.ireturn, 1, 0, 0, .null) := by decide +kernel
theorem k97_15 : am_cd am_x 97 15 = some (.aload_n 0, 1, 0, 0, .null) := by decide +kernel
theorem k97_16 : am_cd am_x 97 16 = some (.getfield 19, 3, 7, 2, .null) := by decide +kernel
theorem k97_19 : am_cd am_x 97 19 = some (.getfield 113, 3, 0, 7, .null) := by decide +kernel
theorem k97_22 : am_cd am_x 97 22 = some (.iload_n 1, 1, 0, 0, .null) := by decide +kernel
theorem k97_23 : am_cd am_x 97 23 = some (.iload_n 2, 1, 0, 0, .null) := by decide +kernel
theorem k97_24 : am_cd am_x 97 24 = some (.invokestatic 117, 3, 5, 0, .null) := by decide +kernel
theorem k97_27 : am_cd am_x 97 27 = some (.iload_n 3, 1, 0, 0, .null) := by decide +kernel
theorem k97_28 : am_cd am_x 97 28 = some (.invokestatic 169, 3, 102, 0, .null) := by decide +kernel
theorem k97_31 : am_cd am_x 97 31 = some (.ireturn, 1, 0, 0, .null) := by decide +kernel
theorem k98_0 : am_cd am_x 98 0 = some (.aload_n 0, 1, 0, 0, .null) := by decide +kernel
theorem k98_1 : am_cd am_x 98 1 = some (.getfield 19, 3, 7, 2, .null) := by decide +kernel
theorem k98_4 : am_cd am_x 98 4 = some (.iload_n 1, 1, 0, 0, .null) := by decide +kernel
theorem k98_5 : am_cd am_x 98 5 = some (.invokevirtual 131, 3, 7, 0, .null) := by decide +kernel
theorem k98_8 : am_cd am_x 98 8 = some (.ifCond .eq 17, 3, 25, 0, .null) := by decide +kernel
theorem k98_11 : am_cd am_x 98 11 = some (.iload_n 2, 1, 0, 0, .null) := by decide +kernel
theorem k98_12 : am_cd am_x 98 12 = some (.aload_n 0, 1, 0, 0, .null) := by decide +kernel
theorem k98_13 : am_cd am_x 98 13 = some (.getfield 19, 3, 7, 2, .null) := by decide +kernel
theorem k98_16 : am_cd am_x 98 16 = some (.invokevirtual 173, 3, 11, 0, .null) := by decide +kernel
theorem k98_19 : am_cd am_x 98 19 = some (.iconst (-1), 1, 0, 0, .null) := by decide +kernel
theorem k98_20 : am_cd am_x 98 20 = some (.ixor, 1, 0, 0, .null) := by decide +kernel
theorem k98_21 : am_cd am_x 98 21 = some (.iand, 1, 0, 0, .null) := by decide +kernel
theorem k98_22 : am_cd am_x 98 22 = some (.ifCond .eq 5, 3, 27, 0, .null) := by decide +kernel
theorem k98_25 : am_cd am_x 98 25 = some (.iconst (-1), 1, 0, 0, .null) := by decide +kernel
theorem k98_26 : am_cd am_x 98 26 = some (.ireturn, 1, 0, 0, .null) := by decide +kernel
theorem k98_27 : am_cd am_x 98 27 = some (.aload_n 0, 1, 0, 0, .null) := by decide +kernel
theorem k98_28 : am_cd am_x 98 28 = some (.getfield 19, 3, 7, 2, .null) := by decide +kernel
theorem k98_31 : am_cd am_x 98 31 = some (.getfield 134, 3, 0, 9, .null) := by decide +kernel
theorem k98_34 : am_cd am_x 98 34 = some (.iload_n 1, 1, 0, 0, .null) := by decide +kernel
theorem k98_35 : am_cd am_x 98 35 = some (.iload_n 2, 1, 0, 0, .null) := by decide +kernel
theorem k98_36 : am_cd am_x 98 36 = some (.invokestatic 169, 3, 102, 0, .null) := by decide +kernel
theorem k98_39 : am_cd am_x 98 39 = some (.ireturn, 1, 0, 0, .null) := by decide +kernel
theorem k99_0 : am_cd am_x 99 0 = some (.iload_n 1, 1, 0, 0, .null) := by decide +kernel
theorem k99_1 : am_cd am_x 99 1 = some (.aload_n 0, 1, 0, 0, .null) := by decide +kernel
theorem k99_2 : am_cd am_x 99 2 = some (.getfield 19, 3, 7, 2, .null) := by decide +kernel
theorem k99_5 : am_cd am_x 99 5 = some (.invokevirtual 162, 3, 10, 0, .null) := by decide +kernel
theorem k99_8 : am_cd am_x 99 8 = some (.iconst (-1), 1, 0, 0, .null) := by decide +kernel
theorem k99_9 : am_cd am_x 99 9 = some (.ixor, 1, 0, 0, .null) := by decide +kernel
theorem k99_10 : am_cd am_x 99 10 = some (.iand, 1, 0, 0, .null) := by decide +kernel
theorem k99_11 : am_cd am_x 99 11 = some (.ifCond .eq 5, 3, 16, 0, .null) := by decide +kernel
theorem k99_14 : am_cd am_x 99 14 = some (.iconst (-1), 1, 0, 0, .null) := by decide +kernel
theorem k99_15 : am_cd am_x 99 15 = some (.ireturn, 1, 0, 0, .null) := by decide +kernel
theorem k99_16 : am_cd am_x 99 16 = some (.aload_n 0, 1, 0, 0, .null) := by decide +kernel
theorem k99_17 : am_cd am_x 99 17 = some (.getfield 19, 3, 7, 2, .null) := by decide +kernel
theorem k99_20 : am_cd am_x 99 20 = some (.getfield 93, 3, 0, 3, .null) := by decide +kernel
theorem k99_23 : am_cd am_x 99 23 = some (.istore_n 2, 1, 0, 0, .null) := by decide +kernel
theorem k99_24 : am_cd am_x 99 24 = some (.aload_n 0, 1, 0, 0, .null) := by decide +kernel
theorem k99_25 : am_cd am_x 99 25 = some (.getfield 19, 3, 7, 2, .null) := by decide +kernel
theorem k99_28 : am_cd am_x 99 28 = some (.iload_n 1, 1, 0, 0, .null) := by decide +kernel
theorem k99_29 : am_cd am_x 99 29 = some (.putfield 93, 3, 0, 3, .int 0) := by decide +kernel
theorem k99_32 : am_cd am_x 99 32 = some (.iload_n 2, 1, 0, 0, .null) := by decide +kernel
theorem k99_33 : am_cd am_x 99 33 = some (.ireturn, 1, 0, 0, .null) := by decide +kernel
theorem k100_0 : am_cd am_x 100 0 = some (.iload_n 1, 1, 0, 0, .null) := by decide +kernel
theorem k100_1 : am_cd am_x 100 1 = some (.istore_n 2, 1, 0, 0, .null) := by decide +kernel
theorem k100_2 : am_cd am_x 100 2 = some (.iconst 0, 1, 0, 0, .null) := by decide +kernel
theorem k100_3 : am_cd am_x 100 3 = some (.istore_n 3, 1, 0, 0, .null) := by decide +kernel
theorem k100_4 : am_cd am_x 100 4 = some (.iload_n 3, 1, 0, 0, .null) := by decide +kernel
theorem k100_5 : am_cd am_x 100 5 = some (.aload_n 0, 1, 0, 0, .null) := by decide +kernel
theorem k100_6 : am_cd am_x 100 6 = some (.getfield 19, 3, 7, 2, .null) := by decide +kernel
theorem k100_9 : am_cd am_x 100 9 = some (.getfield 86, 3, 0, 0, .null) := by decide +kernel
theorem k100_12 : am_cd am_x 100 12 = some (.if_icmp .ge 64, 3, 76, 0, .null) := by decide +kernel
theorem k100_15 : am_cd am_x 100 15 = some (.iconst 0, 1, 0, 0, .null) := by decide +kernel
theorem k100_16 : am_cd am_x 100 16 = some (.istore 4, 2, 0, 0, .null) := by decide +kernel
theorem k100_18 : am_cd am_x 100 18 = some (.iload 4, 2, 0, 0, .null) := by decide +kernel
theorem k100_20 : am_cd am_x 100 20 = some (.aload_n 0, 1, 0, 0, .null) := by decide +kernel
theorem k100_21 : am_cd am_x 100 21 = some (.getfield 19, 3, 7, 2, .null) := by decide +kernel
theorem k100_24 : am_cd am_x 100 24 = some (.getfield 89, 3, 0, 1, .null) := by decide +kernel
theorem k100_27 : am_cd am_x 100 27 = some (.if_icmp .ge 43, 3, 70, 0, .null) := by decide +kernel
theorem k100_30 : am_cd am_x 100 30 = some (.iload_n 2, 1, 0, 0, .null) := by decide +kernel
theorem k100_31 : am_cd am_x 100 31 = some (.ldc 176, 2, 0, 0, .int 1103515245) := by decide +kernel
theorem k100_33 : am_cd am_x 100 33 = some (.imul, 1, 0, 0, .null) := by decide +kernel
theorem k100_34 : am_cd am_x 100 34 = some (.sipush 12345, 3, 0, 0, .null) := by decide +kernel
theorem k100_37 : am_cd am_x 100 37 = some (.iadd, 1, 0, 0, .null) := by decide +kernel
theorem k100_38 : am_cd am_x 100 38 = some (.istore_n 2, 1, 0, 0, .null) := by decide +kernel
theorem k100_39 : am_cd am_x 100 39 = some (.aload_n 0, 1, 0, 0, .null) := by decide +kernel
theorem k100_40 : am_cd am_x 100 40 = some (.getfield 19, 3, 7, 2, .null) := by decide +kernel
theorem k100_43 : am_cd am_x 100 43 = some (.getfield 113, 3, 0, 7, .null) := by decide +kernel
theorem k100_46 : am_cd am_x 100 46 = some (.iload_n 3, 1, 0, 0, .null) := by decide +kernel
theorem k100_47 : am_cd am_x 100 47 = some (.iload 4, 2, 0, 0, .null) := by decide +kernel
theorem k100_49 : am_cd am_x 100 49 = some (.invokestatic 117, 3, 5, 0, .null) := by decide +kernel
theorem k100_52 : am_cd am_x 100 52 = some (.iload_n 2, 1, 0, 0, .null) := by decide +kernel
theorem k100_53 : am_cd am_x 100 53 = some (.bipush 16, 2, 0, 0, .null) := by decide +kernel
theorem k100_55 : am_cd am_x 100 55 = some (.iushr, 1, 0, 0, .null) := by decide +kernel
theorem k100_56 : am_cd am_x 100 56 = some (.sipush 32767, 3, 0, 0, .null) := by decide +kernel
theorem k100_59 : am_cd am_x 100 59 = some (.iand, 1, 0, 0, .null) := by decide +kernel
theorem k100_60 : am_cd am_x 100 60 = some (.invokestatic 177, 3, 101, 0, .null) := by decide +kernel
theorem k100_63 : am_cd am_x 100 63 = some (.iastore, 1, 0, 0, .null) := by decide +kernel
theorem k100_64 : am_cd am_x 100 64 = some (.iinc 4 1, 3, 0, 0, .null) := by decide +kernel
theorem k100_67 : am_cd am_x 100 67 = some (.goto (-49), 3, 18, 0, .null) := by decide +kernel
theorem k100_70 : am_cd am_x 100 70 = some (.iinc 3 1, 3, 0, 0, .null) := by decide +kernel
theorem k100_73 : am_cd am_x 100 73 = some (.goto (-69), 3, 4, 0, .null) := by decide +kernel
theorem k100_76 : am_cd am_x 100 76 = some (.aload_n 0, 1, 0, 0, .null) := by decide +kernel
theorem k100_77 : am_cd am_x 100 77 = some (.getfield 19, 3, 7, 2, .null) := by decide +kernel
theorem k100_80 : am_cd am_x 100 80 = some (.iconst 2, 1, 0, 0, .null) := by decide +kernel
theorem k100_81 : am_cd am_x 100 81 = some (.invokevirtual 105, 3, 13, 0, .null) := by decide +kernel
theorem k100_84 : am_cd am_x 100 84 = some (.ireturn, 1, 0, 0, .null) := by decide +kernel
theorem k101_0 : am_cd am_x 101 0 = some (.iload_n 0, 1, 0, 0, .null) := by decide +kernel
theorem k101_1 : am_cd am_x 101 1 = some (.iconst 5, 1, 0, 0, .null) := by decide +kernel
theorem k101_2 : am_cd am_x 101 2 = some (.irem, 1, 0, 0, .null) := by decide +kernel
theorem k101_3 : am_cd am_x 101 3 = some (.istore_n 1, 1, 0, 0, .null) := by decide +kernel
theorem k101_4 : am_cd am_x 101 4 = some (.iload_n 1, 1, 0, 0, .null) := by decide +kernel
theorem k101_5 : am_cd am_x 101 5 = some (.iconst 2, 1, 0, 0, .null) := by decide +kernel
theorem k101_6 : am_cd am_x 101 6 = some (.if_icmp .eq 8, 3, 14, 0, .null) := by decide +kernel
theorem k101_9 : am_cd am_x 101 9 = some (.iload_n 1, 1, 0, 0, .null) := by decide +kernel
theorem k101_10 : am_cd am_x 101 10 = some (.iconst 4, 1, 0, 0, .null) := by decide +kernel
theorem k101_11 : am_cd am_x 101 11 = some (.if_icmp .ne 5, 3, 16, 0, .null) := by decide +kernel
theorem k101_14 : am_cd am_x 101 14 = some (.iconst 2, 1, 0, 0, .null) := by decide +kernel
theorem k101_15 : am_cd am_x 101 15 = some (.ireturn, 1, 0, 0, .null) := by decide +kernel
theorem k101_16 : am_cd am_x 101 16 = some (.iload_n 1, 1, 0, 0, .null) := by decide +kernel
theorem k101_17 : am_cd am_x 101 17 = some (.iconst 1, 1, 0, 0, .null) := by decide +kernel
theorem k101_18 : am_cd am_x 101 18 = some (.if_icmp .ne 7, 3, 25, 0, .null) := by decide +kernel
theorem k101_21 : am_cd am_x 101 21 = some (.iconst 1, 1, 0, 0, .null) := by decide +kernel
theorem k101_22 : am_cd am_x 101 22 = some (.goto 4, 3, 26, 0, .null) := by decide +kernel
theorem k101_25 : am_cd am_x 101 25 = some (.iconst 0, 1, 0, 0, .null) := by decide +kernel
theorem k101_26 : am_cd am_x 101 26 = some (.ireturn, 1, 0, 0, .null) := by decide +kernel
theorem k102_0 : am_cd am_x 102 0 = some (.aload_n 0, 1, 0, 0, .null) := by decide +kernel
theorem k102_1 : am_cd am_x 102 1 = some (.iload_n 1, 1, 0, 0, .null) := by decide +kernel
theorem k102_2 : am_cd am_x 102 2 = some (.iaload, 1, 0, 0, .null) := by decide +kernel
theorem k102_3 : am_cd am_x 102 3 = some (.istore_n 3, 1, 0, 0, .null) := by decide +kernel
theorem k102_4 : am_cd am_x 102 4 = some (.aload_n 0, 1, 0, 0, .null) := by decide +kernel
theorem k102_5 : am_cd am_x 102 5 = some (.iload_n 1, 1, 0, 0, .null) := by decide +kernel
theorem k102_6 : am_cd am_x 102 6 = some (.iload_n 2, 1, 0, 0, .null) := by decide +kernel
theorem k102_7 : am_cd am_x 102 7 = some (.iastore, 1, 0, 0, .null) := by decide +kernel
theorem k102_8 : am_cd am_x 102 8 = some (.iload_n 3, 1, 0, 0, .null) := by decide +kernel
theorem k102_9 : am_cd am_x 102 9 = some (.ireturn, 1, 0, 0, .null) := by decide +kernel
theorem k103_0 : am_cd am_x 103 0 = some (.aload_n 0, 1, 0, 0, .null) := by decide +kernel
theorem k103_1 : am_cd am_x 103 1 = some (.getfield 19, 3, 7, 2, .null) := by decide +kernel
theorem k103_4 : am_cd am_x 103 4 = some (.iload_n 1, 1, 0, 0, .null) := by decide +kernel
theorem k103_5 : am_cd am_x 103 5 = some (.iload_n 2, 1, 0, 0, .null) := by decide +kernel
theorem k103_6 : am_cd am_x 103 6 = some (.iload_n 3, 1, 0, 0, .null) := by decide +kernel
theorem k103_7 : am_cd am_x 103 7 = some (.invokevirtual 165, 3, 9, 0, .null) := by decide +kernel
theorem k103_10 : am_cd am_x 103 10 = some (.ifCond .ne 5, 3, 15, 0, .null) := by decide +kernel
theorem k103_13 : am_cd am_x 103 13 = some (.iconst (-1), 1, 0, 0, .null) := by decide +kernel
theorem k103_14 : am_cd am_x 103 14 = some (.ireturn, 1, 0, 0, .null) := by decide +kernel
theorem k103_15 : am_cd am_x 103 15 = some (.aload_n 0, 1, 0, 0, .null) := by decide +kernel
theorem k103_16 : am_cd am_x 103 16 = some (.getfield 19, 3, 7, 2, .null) := by decide +kernel
theorem k103_19 : am_cd am_x 103 19 = some (.getfield 121, 3, 0, 8, .null) := by decide +kernel
theorem k103_22 : am_cd am_x 103 22 = some (.iload_n 1, 1, 0, 0, .null) := by decide +kernel
theorem k103_23 : am_cd am_x 103 23 = some (.iload_n 2, 1, 0, 0, .null) := by decide +kernel
theorem k103_24 : am_cd am_x 103 24 = some (.invokestatic 117, 3, 5, 0, .null) := by decide +kernel
theorem k103_27 : am_cd am_x 103 27 = some (.iload_n 3, 1, 0, 0, .null) := by decide +kernel
theorem k103_28 : am_cd am_x 103 28 = some (.invokestatic 169, 3, 102, 0, .null) := by decide +kernel
theorem k103_31 : am_cd am_x 103 31 = some (.ireturn, 1, 0, 0, .null) := by decide +kernel
theorem k104_0 : am_cd am_x 104 0 = some (.iload_n 1, 1, 0, 0, .null) := by decide +kernel
theorem k104_1 : am_cd am_x 104 1 = some (.ifCond .lt 28, 3, 29, 0, .null) := by decide +kernel
theorem k104_4 : am_cd am_x 104 4 = some (.iload_n 1, 1, 0, 0, .null) := by decide +kernel
theorem k104_5 : am_cd am_x 104 5 = some (.iconst 1, 1, 0, 0, .null) := by decide +kernel
theorem k104_6 : am_cd am_x 104 6 = some (.aload_n 0, 1, 0, 0, .null) := by decide +kernel
theorem k104_7 : am_cd am_x 104 7 = some (.getfield 19, 3, 7, 2, .null) := by decide +kernel
theorem k104_10 : am_cd am_x 104 10 = some (.getfield 96, 3, 0, 4, .null) := by decide +kernel
theorem k104_13 : am_cd am_x 104 13 = some (.ishl, 1, 0, 0, .null) := by decide +kernel
theorem k104_14 : am_cd am_x 104 14 = some (.if_icmp .ge 15, 3, 29, 0, .null) := by decide +kernel
theorem k104_17 : am_cd am_x 104 17 = some (.aload_n 0, 1, 0, 0, .null) := by decide +kernel
theorem k104_18 : am_cd am_x 104 18 = some (.getfield 19, 3, 7, 2, .null) := by decide +kernel
theorem k104_21 : am_cd am_x 104 21 = some (.iload_n 2, 1, 0, 0, .null) := by decide +kernel
theorem k104_22 : am_cd am_x 104 22 = some (.iload_n 3, 1, 0, 0, .null) := by decide +kernel
theorem k104_23 : am_cd am_x 104 23 = some (.invokevirtual 109, 3, 8, 0, .null) := by decide +kernel
theorem k104_26 : am_cd am_x 104 26 = some (.ifCond .ne 5, 3, 31, 0, .null) := by decide +kernel
theorem k104_29 : am_cd am_x 104 29 = some (.iconst (-1), 1, 0, 0, .null) := by decide +kernel
theorem k104_30 : am_cd am_x 104 30 = some (.ireturn, 1, 0, 0, .null) := by decide +kernel
theorem k104_31 : am_cd am_x 104 31 = some (.aload_n 0, 1, 0, 0, .null) := by decide +kernel
theorem k104_32 : am_cd am_x 104 32 = some (.getfield 34, 3, 7, 5, .null) := by decide +kernel
theorem k104_35 : am_cd am_x 104 35 = some (.aload_n 0, 1, 0, 0, .null) := by decide +kernel
theorem k104_36 : am_cd am_x 104 36 = some (.getfield 19, 3, 7, 2, .null) := by decide +kernel
theorem k104_39 : am_cd am_x 104 39 = some (.invokevirtual 180, 3, 40, 2, .null) := by decide +kernel
theorem k104_42 : am_cd am_x 104 42 = some (.iconst 0, 1, 0, 0, .null) := by decide +kernel
theorem k104_43 : am_cd am_x 104 43 = some (.istore 4, 2, 0, 0, .null) := by decide +kernel
theorem k104_45 : am_cd am_x 104 45 = some (.iload 4, 2, 0, 0, .null) := by decide +kernel
theorem k104_47 : am_cd am_x 104 47 = some (.iload_n 3, 1, 0, 0, .null) := by decide +kernel
theorem k104_48 : am_cd am_x 104 48 = some (.if_icmp .ge 16, 3, 64, 0, .null) := by decide +kernel
theorem k104_51 : am_cd am_x 104 51 = some (.aload_n 0, 1, 0, 0, .null) := by decide +kernel
theorem k104_52 : am_cd am_x 104 52 = some (.getfield 34, 3, 7, 5, .null) := by decide +kernel
theorem k104_55 : am_cd am_x 104 55 = some (.invokevirtual 183, 3, 41, 2, .null) := by decide +kernel
theorem k104_58 : am_cd am_x 104 58 = some (.iinc 4 1, 3, 0, 0, .null) := by decide +kernel
theorem k104_61 : am_cd am_x 104 61 = some (.goto (-16), 3, 45, 0, .null) := by decide +kernel
theorem k104_64 : am_cd am_x 104 64 = some (.aload_n 0, 1, 0, 0, .null) := by decide +kernel
theorem k104_65 : am_cd am_x 104 65 = some (.getfield 34, 3, 7, 5, .null) := by decide +kernel
theorem k104_68 : am_cd am_x 104 68 = some (.iload_n 2, 1, 0, 0, .null) := by decide +kernel
theorem k104_69 : am_cd am_x 104 69 = some (.invokevirtual 186, 3, 42, 2, .null) := by decide +kernel
theorem k104_72 : am_cd am_x 104 72 = some (.iload_n 1, 1, 0, 0, .null) := by decide +kernel
theorem k104_73 : am_cd am_x 104 73 = some (.iand, 1, 0, 0, .null) := by decide +kernel
theorem k104_74 : am_cd am_x 104 74 = some (.invokestatic 189, 3, 39, 0, .null) := by decide +kernel
theorem k104_77 : am_cd am_x 104 77 = some (.ireturn, 1, 0, 0, .null) := by decide +kernel
theorem k105_0 : am_cd am_x 105 0 = some (.iload_n 1, 1, 0, 0, .null) := by decide +kernel
theorem k105_1 : am_cd am_x 105 1 = some (.ifCond .lt 8, 3, 9, 0, .null) := by decide +kernel
theorem k105_4 : am_cd am_x 105 4 = some (.iload_n 1, 1, 0, 0, .null) := by decide +kernel
theorem k105_5 : am_cd am_x 105 5 = some (.iconst 1, 1, 0, 0, .null) := by decide +kernel
theorem k105_6 : am_cd am_x 105 6 = some (.if_icmp .le 5, 3, 11, 0, .null) := by decide +kernel
theorem k105_9 : am_cd am_x 105 9 = some (.iconst (-1), 1, 0, 0, .null) := by decide +kernel
theorem k105_10 : am_cd am_x 105 10 = some (.ireturn, 1, 0, 0, .null) := by decide +kernel
theorem k105_11 : am_cd am_x 105 11 = some (.aload_n 0, 1, 0, 0, .null) := by decide +kernel
theorem k105_12 : am_cd am_x 105 12 = some (.getfield 34, 3, 7, 5, .null) := by decide +kernel
theorem k105_15 : am_cd am_x 105 15 = some (.aload_n 0, 1, 0, 0, .null) := by decide +kernel
theorem k105_16 : am_cd am_x 105 16 = some (.getfield 19, 3, 7, 2, .null) := by decide +kernel
theorem k105_19 : am_cd am_x 105 19 = some (.invokevirtual 192, 3, 43, 2, .null) := by decide +kernel
theorem k105_22 : am_cd am_x 105 22 = some (.astore_n 2, 1, 0, 0, .null) := by decide +kernel
theorem k105_23 : am_cd am_x 105 23 = some (.aload_n 2, 1, 0, 0, .null) := by decide +kernel
theorem k105_24 : am_cd am_x 105 24 = some (.getfield 196, 3, 1, 2, .null) := by decide +kernel
theorem k105_27 : am_cd am_x 105 27 = some (.ifCond .eq 6, 3, 33, 0, .null) := by decide +kernel
theorem k105_30 : am_cd am_x 105 30 = some (.bipush (-4), 2, 0, 0, .null) := by decide +kernel
theorem k105_32 : am_cd am_x 105 32 = some (.ireturn, 1, 0, 0, .null) := by decide +kernel
theorem k105_33 : am_cd am_x 105 33 = some (.iload_n 1, 1, 0, 0, .null) := by decide +kernel
theorem k105_34 : am_cd am_x 105 34 = some (.ifCond .ne 10, 3, 44, 0, .null) := by decide +kernel
theorem k105_37 : am_cd am_x 105 37 = some (.aload_n 2, 1, 0, 0, .null) := by decide +kernel
theorem k105_38 : am_cd am_x 105 38 = some (.invokevirtual 202, 3, 37, 1, .null) := by decide +kernel
theorem k105_41 : am_cd am_x 105 41 = some (.goto 15, 3, 56, 0, .null) := by decide +kernel
theorem k105_44 : am_cd am_x 105 44 = some (.aload_n 0, 1, 0, 0, .null) := by decide +kernel
theorem k105_45 : am_cd am_x 105 45 = some (.getfield 19, 3, 7, 2, .null) := by decide +kernel
theorem k105_48 : am_cd am_x 105 48 = some (.getfield 96, 3, 0, 4, .null) := by decide +kernel
theorem k105_51 : am_cd am_x 105 51 = some (.aload_n 2, 1, 0, 0, .null) := by decide +kernel
theorem k105_52 : am_cd am_x 105 52 = some (.getfield 205, 3, 1, 1, .null) := by decide +kernel
theorem k105_55 : am_cd am_x 105 55 = some (.isub, 1, 0, 0, .null) := by decide +kernel
theorem k105_56 : am_cd am_x 105 56 = some (.ireturn, 1, 0, 0, .null) := by decide +kernel
theorem k106_0 : am_cd am_x 106 0 = some (.iconst 0, 1, 0, 0, .null) := by decide +kernel
theorem k106_1 : am_cd am_x 106 1 = some (.istore_n 1, 1, 0, 0, .null) := by decide +kernel
theorem k106_2 : am_cd am_x 106 2 = some (.iconst 0, 1, 0, 0, .null) := by decide +kernel
theorem k106_3 : am_cd am_x 106 3 = some (.istore_n 2, 1, 0, 0, .null) := by decide +kernel
theorem k106_4 : am_cd am_x 106 4 = some (.iload_n 2, 1, 0, 0, .null) := by decide +kernel
theorem k106_5 : am_cd am_x 106 5 = some (.aload_n 0, 1, 0, 0, .null) := by decide +kernel
theorem k106_6 : am_cd am_x 106 6 = some (.getfield 19, 3, 7, 2, .null) := by decide +kernel
theorem k106_9 : am_cd am_x 106 9 = some (.getfield 89, 3, 0, 1, .null) := by decide +kernel
theorem k106_12 : am_cd am_x 106 12 = some (.if_icmp .ge 72, 3, 84, 0, .null) := by decide +kernel
theorem k106_15 : am_cd am_x 106 15 = some (.aload_n 0, 1, 0, 0, .null) := by decide +kernel
theorem k106_16 : am_cd am_x 106 16 = some (.getfield 19, 3, 7, 2, .null) := by decide +kernel
theorem k106_19 : am_cd am_x 106 19 = some (.iload_n 2, 1, 0, 0, .null) := by decide +kernel
theorem k106_20 : am_cd am_x 106 20 = some (.aload_n 0, 1, 0, 0, .null) := by decide +kernel
theorem k106_21 : am_cd am_x 106 21 = some (.getfield 19, 3, 7, 2, .null) := by decide +kernel
theorem k106_24 : am_cd am_x 106 24 = some (.getfield 93, 3, 0, 3, .null) := by decide +kernel
theorem k106_27 : am_cd am_x 106 27 = some (.invokevirtual 124, 3, 17, 0, .null) := by decide +kernel
theorem k106_30 : am_cd am_x 106 30 = some (.ifCond .eq 6, 3, 36, 0, .null) := by decide +kernel
theorem k106_33 : am_cd am_x 106 33 = some (.bipush (-4), 2, 0, 0, .null) := by decide +kernel
theorem k106_35 : am_cd am_x 106 35 = some (.ireturn, 1, 0, 0, .null) := by decide +kernel
theorem k106_36 : am_cd am_x 106 36 = some (.aload_n 0, 1, 0, 0, .null) := by decide +kernel
theorem k106_37 : am_cd am_x 106 37 = some (.getfield 19, 3, 7, 2, .null) := by decide +kernel
theorem k106_40 : am_cd am_x 106 40 = some (.iload_n 1, 1, 0, 0, .null) := by decide +kernel
theorem k106_41 : am_cd am_x 106 41 = some (.invokestatic 208, 3, 50, 0, .null) := by decide +kernel
theorem k106_44 : am_cd am_x 106 44 = some (.istore_n 1, 1, 0, 0, .null) := by decide +kernel
theorem k106_45 : am_cd am_x 106 45 = some (.iconst 0, 1, 0, 0, .null) := by decide +kernel
theorem k106_46 : am_cd am_x 106 46 = some (.istore_n 3, 1, 0, 0, .null) := by decide +kernel
theorem k106_47 : am_cd am_x 106 47 = some (.iload_n 3, 1, 0, 0, .null) := by decide +kernel
theorem k106_48 : am_cd am_x 106 48 = some (.aload_n 0, 1, 0, 0, .null) := by decide +kernel
theorem k106_49 : am_cd am_x 106 49 = some (.getfield 19, 3, 7, 2, .null) := by decide +kernel
theorem k106_52 : am_cd am_x 106 52 = some (.getfield 90, 3, 0, 2, .null) := by decide +kernel
theorem k106_55 : am_cd am_x 106 55 = some (.if_icmp .ge 23, 3, 78, 0, .null) := by decide +kernel
theorem k106_58 : am_cd am_x 106 58 = some (.iload_n 1, 1, 0, 0, .null) := by decide +kernel
theorem k106_59 : am_cd am_x 106 59 = some (.aload_n 0, 1, 0, 0, .null) := by decide +kernel
theorem k106_60 : am_cd am_x 106 60 = some (.getfield 19, 3, 7, 2, .null) := by decide +kernel
theorem k106_63 : am_cd am_x 106 63 = some (.iload_n 2, 1, 0, 0, .null) := by decide +kernel
theorem k106_64 : am_cd am_x 106 64 = some (.iload_n 3, 1, 0, 0, .null) := by decide +kernel
theorem k106_65 : am_cd am_x 106 65 = some (.invokevirtual 137, 3, 16, 0, .null) := by decide +kernel
theorem k106_68 : am_cd am_x 106 68 = some (.iload_n 3, 1, 0, 0, .null) := by decide +kernel
theorem k106_69 : am_cd am_x 106 69 = some (.ishl, 1, 0, 0, .null) := by decide +kernel
theorem k106_70 : am_cd am_x 106 70 = some (.ixor, 1, 0, 0, .null) := by decide +kernel
theorem k106_71 : am_cd am_x 106 71 = some (.istore_n 1, 1, 0, 0, .null) := by decide +kernel
theorem k106_72 : am_cd am_x 106 72 = some (.iinc 3 1, 3, 0, 0, .null) := by decide +kernel
theorem k106_75 : am_cd am_x 106 75 = some (.goto (-28), 3, 47, 0, .null) := by decide +kernel
theorem k106_78 : am_cd am_x 106 78 = some (.iinc 2 1, 3, 0, 0, .null) := by decide +kernel
theorem k106_81 : am_cd am_x 106 81 = some (.goto (-77), 3, 4, 0, .null) := by decide +kernel
theorem k106_84 : am_cd am_x 106 84 = some (.iload_n 1, 1, 0, 0, .null) := by decide +kernel
theorem k106_85 : am_cd am_x 106 85 = some (.ireturn, 1, 0, 0, .null) := by decide +kernel
theorem k107_0 : am_cd am_x 107 0 = some (.iload_n 1, 1, 0, 0, .null) := by decide +kernel
theorem k107_1 : am_cd am_x 107 1 = some (.ifCond .lt 8, 3, 9, 0, .null) := by decide +kernel
theorem k107_4 : am_cd am_x 107 4 = some (.iload_n 1, 1, 0, 0, .null) := by decide +kernel
theorem k107_5 : am_cd am_x 107 5 = some (.iconst 2, 1, 0, 0, .null) := by decide +kernel
theorem k107_6 : am_cd am_x 107 6 = some (.if_icmp .le 5, 3, 11, 0, .null) := by decide +kernel
theorem k107_9 : am_cd am_x 107 9 = some (.iconst (-1), 1, 0, 0, .null) := by decide +kernel
theorem k107_10 : am_cd am_x 107 10 = some (.ireturn, 1, 0, 0, .null) := by decide +kernel
theorem k107_11 : am_cd am_x 107 11 = some (.aload_n 0, 1, 0, 0, .null) := by decide +kernel
theorem k107_12 : am_cd am_x 107 12 = some (.getfield 41, 3, 7, 6, .null) := by decide +kernel
theorem k107_15 : am_cd am_x 107 15 = some (.aload_n 0, 1, 0, 0, .null) := by decide +kernel
theorem k107_16 : am_cd am_x 107 16 = some (.getfield 19, 3, 7, 2, .null) := by decide +kernel
theorem k107_19 : am_cd am_x 107 19 = some (.invokevirtual 212, 3, 51, 4, .null) := by decide +kernel
theorem k107_22 : am_cd am_x 107 22 = some (.iload_n 1, 1, 0, 0, .null) := by decide +kernel
theorem k107_23 : am_cd am_x 107 23 = some (.lookupswitch 41 #[(0, 25), (1, 33)], 25, 0, 0, .null) := by decide +kernel
theorem k107_48 : am_cd am_x 107 48 = some (.aload_n 0, 1, 0, 0, .null) := by decide +kernel
theorem k107_49 : am_cd am_x 107 49 = some (.getfield 41, 3, 7, 6, .null) := by decide +kernel
theorem k107_52 : am_cd am_x 107 52 = some (.invokevirtual 215, 3, 53, 4, .null) := by decide +kernel
theorem k107_55 : am_cd am_x 107 55 = some (.ireturn, 1, 0, 0, .null) := by decide +kernel
theorem k107_56 : am_cd am_x 107 56 = some (.aload_n 0, 1, 0, 0, .null) := by decide +kernel
theorem k107_57 : am_cd am_x 107 57 = some (.getfield 41, 3, 7, 6, .null) := by decide +kernel
theorem k107_60 : am_cd am_x 107 60 = some (.invokevirtual 218, 3, 54, 4, .null) := by decide +kernel
theorem k107_63 : am_cd am_x 107 63 = some (.ireturn, 1, 0, 0, .null) := by decide +kernel
theorem k107_64 : am_cd am_x 107 64 = some (.aload_n 0, 1, 0, 0, .null) := by decide +kernel
theorem k107_65 : am_cd am_x 107 65 = some (.getfield 41, 3, 7, 6, .null) := by decide +kernel
theorem k107_68 : am_cd am_x 107 68 = some (.invokevirtual 221, 3, 55, 4, .null) := by decide +kernel
theorem k107_71 : am_cd am_x 107 71 = some (.ireturn, 1, 0, 0, .null) := by decide +kernel
theorem k108_0 : am_cd am_x 108 0 = some (.aload_n 0, 1, 0, 0, .null) := by decide +kernel
theorem k108_1 : am_cd am_x 108 1 = some (.getfield 19, 3, 7, 2, .null) := by decide +kernel
theorem k108_4 : am_cd am_x 108 4 = some (.iload_n 1, 1, 0, 0, .null) := by decide +kernel
theorem k108_5 : am_cd am_x 108 5 = some (.invokevirtual 131, 3, 7, 0, .null) := by decide +kernel
theorem k108_8 : am_cd am_x 108 8 = some (.ifCond .eq 15, 3, 23, 0, .null) := by decide +kernel
theorem k108_11 : am_cd am_x 108 11 = some (.aload_n 0, 1, 0, 0, .null) := by decide +kernel
theorem k108_12 : am_cd am_x 108 12 = some (.getfield 19, 3, 7, 2, .null) := by decide +kernel
theorem k108_15 : am_cd am_x 108 15 = some (.getfield 224, 3, 0, 10, .null) := by decide +kernel
theorem k108_18 : am_cd am_x 108 18 = some (.iload_n 1, 1, 0, 0, .null) := by decide +kernel
theorem k108_19 : am_cd am_x 108 19 = some (.iaload, 1, 0, 0, .null) := by decide +kernel
theorem k108_20 : am_cd am_x 108 20 = some (.goto 4, 3, 24, 0, .null) := by decide +kernel
theorem k108_23 : am_cd am_x 108 23 = some (.iconst (-1), 1, 0, 0, .null) := by decide +kernel
theorem k108_24 : am_cd am_x 108 24 = some (.ireturn, 1, 0, 0, .null) := by decide +kernel
theorem k109_0 : am_cd am_x 109 0 = some (.aload_n 0, 1, 0, 0, .null) := by decide +kernel
theorem k109_1 : am_cd am_x 109 1 = some (.getfield 19, 3, 7, 2, .null) := by decide +kernel
theorem k109_4 : am_cd am_x 109 4 = some (.iload_n 1, 1, 0, 0, .null) := by decide +kernel
theorem k109_5 : am_cd am_x 109 5 = some (.invokevirtual 131, 3, 7, 0, .null) := by decide +kernel
theorem k109_8 : am_cd am_x 109 8 = some (.ifCond .eq 20, 3, 28, 0, .null) := by decide +kernel
theorem k109_11 : am_cd am_x 109 11 = some (.iload_n 2, 1, 0, 0, .null) := by decide +kernel
theorem k109_12 : am_cd am_x 109 12 = some (.ifCond .lt 16, 3, 28, 0, .null) := by decide +kernel
theorem k109_15 : am_cd am_x 109 15 = some (.iload_n 2, 1, 0, 0, .null) := by decide +kernel
theorem k109_16 : am_cd am_x 109 16 = some (.iconst 1, 1, 0, 0, .null) := by decide +kernel
theorem k109_17 : am_cd am_x 109 17 = some (.aload_n 0, 1, 0, 0, .null) := by decide +kernel
theorem k109_18 : am_cd am_x 109 18 = some (.getfield 19, 3, 7, 2, .null) := by decide +kernel
theorem k109_21 : am_cd am_x 109 21 = some (.getfield 89, 3, 0, 1, .null) := by decide +kernel
theorem k109_24 : am_cd am_x 109 24 = some (.ishl, 1, 0, 0, .null) := by decide +kernel
theorem k109_25 : am_cd am_x 109 25 = some (.if_icmp .lt 5, 3, 30, 0, .null) := by decide +kernel
theorem k109_28 : am_cd am_x 109 28 = some (.iconst (-1), 1, 0, 0, .null) := by decide +kernel
theorem k109_29 : am_cd am_x 109 29 = some (.ireturn, 1, 0, 0, .null) := by decide +kernel
theorem k109_30 : am_cd am_x 109 30 = some (.aload_n 0, 1, 0, 0, .null) := by decide +kernel
theorem k109_31 : am_cd am_x 109 31 = some (.getfield 19, 3, 7, 2, .null) := by decide +kernel
theorem k109_34 : am_cd am_x 109 34 = some (.getfield 224, 3, 0, 10, .null) := by decide +kernel
theorem k109_37 : am_cd am_x 109 37 = some (.iload_n 1, 1, 0, 0, .null) := by decide +kernel
theorem k109_38 : am_cd am_x 109 38 = some (.dup2, 1, 0, 0, .null) := by decide +kernel
theorem k109_39 : am_cd am_x 109 39 = some (.iaload, 1, 0, 0, .null) := by decide +kernel
theorem k109_40 : am_cd am_x 109 40 = some (.aload_n 0, 1, 0, 0, .null) := by decide +kernel
theorem k109_41 : am_cd am_x 109 41 = some (.getfield 19, 3, 7, 2, .null) := by decide +kernel
theorem k109_44 : am_cd am_x 109 44 = some (.iload_n 1, 1, 0, 0, .null) := by decide +kernel
theorem k109_45 : am_cd am_x 109 45 = some (.iload_n 2, 1, 0, 0, .null) := by decide +kernel
theorem k109_46 : am_cd am_x 109 46 = some (.invokevirtual 227, 3, 28, 0, .null) := by decide +kernel
theorem k109_49 : am_cd am_x 109 49 = some (.iand, 1, 0, 0, .null) := by decide +kernel
theorem k109_50 : am_cd am_x 109 50 = some (.iastore, 1, 0, 0, .null) := by decide +kernel
theorem k109_51 : am_cd am_x 109 51 = some (.aload_n 0, 1, 0, 0, .null) := by decide +kernel
theorem k109_52 : am_cd am_x 109 52 = some (.getfield 19, 3, 7, 2, .null) := by decide +kernel
theorem k109_55 : am_cd am_x 109 55 = some (.getfield 224, 3, 0, 10, .null) := by decide +kernel
theorem k109_58 : am_cd am_x 109 58 = some (.iload_n 1, 1, 0, 0, .null) := by decide +kernel
theorem k109_59 : am_cd am_x 109 59 = some (.iaload, 1, 0, 0, .null) := by decide +kernel
theorem k109_60 : am_cd am_x 109 60 = some (.invokestatic 230, 3, 212, 0, .null) := by decide +kernel
theorem k109_63 : am_cd am_x 109 63 = some (.ireturn, 1, 0, 0, .null) := by decide +kernel
theorem k110_0 : am_cd am_x 110 0 = some (.aload_n 0, 1, 0, 0, .null) := by decide +kernel
theorem k110_1 : am_cd am_x 110 1 = some (.getfield 19, 3, 7, 2, .null) := by decide +kernel
theorem k110_4 : am_cd am_x 110 4 = some (.iload_n 1, 1, 0, 0, .null) := by decide +kernel
theorem k110_5 : am_cd am_x 110 5 = some (.invokevirtual 131, 3, 7, 0, .null) := by decide +kernel
theorem k110_8 : am_cd am_x 110 8 = some (.ifCond .ne 5, 3, 13, 0, .null) := by decide +kernel
theorem k110_11 : am_cd am_x 110 11 = some (.iconst (-1), 1, 0, 0, .null) := by decide +kernel
theorem k110_12 : am_cd am_x 110 12 = some (.ireturn, 1, 0, 0, .null) := by decide +kernel
theorem k110_13 : am_cd am_x 110 13 = some (.aload_n 0, 1, 0, 0, .null) := by decide +kernel
theorem k110_14 : am_cd am_x 110 14 = some (.getfield 19, 3, 7, 2, .null) := by decide +kernel
theorem k110_17 : am_cd am_x 110 17 = some (.getfield 224, 3, 0, 10, .null) := by decide +kernel
theorem k110_20 : am_cd am_x 110 20 = some (.iload_n 1, 1, 0, 0, .null) := by decide +kernel
theorem k110_21 : am_cd am_x 110 21 = some (.aload_n 0, 1, 0, 0, .null) := by decide +kernel
theorem k110_22 : am_cd am_x 110 22 = some (.getfield 19, 3, 7, 2, .null) := by decide +kernel
theorem k110_25 : am_cd am_x 110 25 = some (.invokevirtual 235, 3, 27, 0, .null) := by decide +kernel
theorem k110_28 : am_cd am_x 110 28 = some (.invokestatic 169, 3, 102, 0, .null) := by decide +kernel
theorem k110_31 : am_cd am_x 110 31 = some (.invokestatic 230, 3, 212, 0, .null) := by decide +kernel
theorem k110_34 : am_cd am_x 110 34 = some (.ireturn, 1, 0, 0, .null) := by decide +kernel
theorem k111_0 : am_cd am_x 111 0 = some (.iload_n 1, 1, 0, 0, .null) := by decide +kernel
theorem k111_1 : am_cd am_x 111 1 = some (.invokestatic 238, 3, 121, 0, .null) := by decide +kernel
theorem k111_4 : am_cd am_x 111 4 = some (.ifCond .ne 5, 3, 9, 0, .null) := by decide +kernel
theorem k111_7 : am_cd am_x 111 7 = some (.iconst (-1), 1, 0, 0, .null) := by decide +kernel
theorem k111_8 : am_cd am_x 111 8 = some (.ireturn, 1, 0, 0, .null) := by decide +kernel
theorem k111_9 : am_cd am_x 111 9 = some (.aload_n 0, 1, 0, 0, .null) := by decide +kernel
theorem k111_10 : am_cd am_x 111 10 = some (.getfield 27, 3, 7, 4, .null) := by decide +kernel
theorem k111_13 : am_cd am_x 111 13 = some (.iload_n 1, 1, 0, 0, .null) := by decide +kernel
theorem k111_14 : am_cd am_x 111 14 = some (.baload, 1, 0, 0, .null) := by decide +kernel
theorem k111_15 : am_cd am_x 111 15 = some (.ifCond .eq 7, 3, 22, 0, .null) := by decide +kernel
theorem k111_18 : am_cd am_x 111 18 = some (.iconst 1, 1, 0, 0, .null) := by decide +kernel
theorem k111_19 : am_cd am_x 111 19 = some (.goto 4, 3, 23, 0, .null) := by decide +kernel
theorem k111_22 : am_cd am_x 111 22 = some (.iconst 0, 1, 0, 0, .null) := by decide +kernel
theorem k111_23 : am_cd am_x 111 23 = some (.istore_n 2, 1, 0, 0, .null) := by decide +kernel
theorem k111_24 : am_cd am_x 111 24 = some (.aload_n 0, 1, 0, 0, .null) := by decide +kernel
theorem k111_25 : am_cd am_x 111 25 = some (.getfield 23, 3, 7, 3, .null) := by decide +kernel
theorem k111_28 : am_cd am_x 111 28 = some (.iload_n 1, 1, 0, 0, .null) := by decide +kernel
theorem k111_29 : am_cd am_x 111 29 = some (.aaload, 1, 0, 0, .null) := by decide +kernel
theorem k111_30 : am_cd am_x 111 30 = some (.aload_n 0, 1, 0, 0, .null) := by decide +kernel
theorem k111_31 : am_cd am_x 111 31 = some (.getfield 19, 3, 7, 2, .null) := by decide +kernel
theorem k111_34 : am_cd am_x 111 34 = some (.invokevirtual 82, 3, 4, 0, .null) := by decide +kernel
theorem k111_37 : am_cd am_x 111 37 = some (.aload_n 0, 1, 0, 0, .null) := by decide +kernel
theorem k111_38 : am_cd am_x 111 38 = some (.getfield 27, 3, 7, 4, .null) := by decide +kernel
theorem k111_41 : am_cd am_x 111 41 = some (.iload_n 1, 1, 0, 0, .null) := by decide +kernel
theorem k111_42 : am_cd am_x 111 42 = some (.iconst 1, 1, 0, 0, .null) := by decide +kernel
theorem k111_43 : am_cd am_x 111 43 = some (.bastore, 1, 0, 0, .null) := by decide +kernel
theorem k111_44 : am_cd am_x 111 44 = some (.iload_n 2, 1, 0, 0, .null) := by decide +kernel
theorem k111_45 : am_cd am_x 111 45 = some (.ireturn, 1, 0, 0, .null) := by decide +kernel
theorem k112_0 : am_cd am_x 112 0 = some (.iload_n 1, 1, 0, 0, .null) := by decide +kernel
theorem k112_1 : am_cd am_x 112 1 = some (.invokestatic 238, 3, 121, 0, .null) := by decide +kernel
theorem k112_4 : am_cd am_x 112 4 = some (.ifCond .ne 5, 3, 9, 0, .null) := by decide +kernel
theorem k112_7 : am_cd am_x 112 7 = some (.iconst (-1), 1, 0, 0, .null) := by decide +kernel
theorem k112_8 : am_cd am_x 112 8 = some (.ireturn, 1, 0, 0, .null) := by decide +kernel
theorem k112_9 : am_cd am_x 112 9 = some (.aload_n 0, 1, 0, 0, .null) := by decide +kernel
theorem k112_10 : am_cd am_x 112 10 = some (.getfield 27, 3, 7, 4, .null) := by decide +kernel
theorem k112_13 : am_cd am_x 112 13 = some (.iload_n 1, 1, 0, 0, .null) := by decide +kernel
theorem k112_14 : am_cd am_x 112 14 = some (.baload, 1, 0, 0, .null) := by decide +kernel
theorem k112_15 : am_cd am_x 112 15 = some (.ifCond .ne 6, 3, 21, 0, .null) := by decide +kernel
theorem k112_18 : am_cd am_x 112 18 = some (.bipush (-2), 2, 0, 0, .null) := by decide +kernel
theorem k112_20 : am_cd am_x 112 20 = some (.ireturn, 1, 0, 0, .null) := by decide +kernel
theorem k112_21 : am_cd am_x 112 21 = some (.aload_n 0, 1, 0, 0, .null) := by decide +kernel
theorem k112_22 : am_cd am_x 112 22 = some (.getfield 19, 3, 7, 2, .null) := by decide +kernel
theorem k112_25 : am_cd am_x 112 25 = some (.aload_n 0, 1, 0, 0, .null) := by decide +kernel
theorem k112_26 : am_cd am_x 112 26 = some (.getfield 23, 3, 7, 3, .null) := by decide +kernel
theorem k112_29 : am_cd am_x 112 29 = some (.iload_n 1, 1, 0, 0, .null) := by decide +kernel
theorem k112_30 : am_cd am_x 112 30 = some (.aaload, 1, 0, 0, .null) := by decide +kernel
theorem k112_31 : am_cd am_x 112 31 = some (.invokevirtual 82, 3, 4, 0, .null) := by decide +kernel
theorem k112_34 : am_cd am_x 112 34 = some (.aload_n 0, 1, 0, 0, .null) := by decide +kernel
theorem k112_35 : am_cd am_x 112 35 = some (.getfield 19, 3, 7, 2, .null) := by decide +kernel
theorem k112_38 : am_cd am_x 112 38 = some (.getfield 86, 3, 0, 0, .null) := by decide +kernel
theorem k112_41 : am_cd am_x 112 41 = some (.ireturn, 1, 0, 0, .null) := by decide +kernel
theorem k113_0 : am_cd am_x 113 0 = some (.iload_n 1, 1, 0, 0, .null) := by decide +kernel
theorem k113_1 : am_cd am_x 113 1 = some (.invokestatic 238, 3, 121, 0, .null) := by decide +kernel
theorem k113_4 : am_cd am_x 113 4 = some (.ifCond .eq 12, 3, 16, 0, .null) := by decide +kernel
theorem k113_7 : am_cd am_x 113 7 = some (.iload_n 2, 1, 0, 0, .null) := by decide +kernel
theorem k113_8 : am_cd am_x 113 8 = some (.ifCond .lt 8, 3, 16, 0, .null) := by decide +kernel
theorem k113_11 : am_cd am_x 113 11 = some (.iload_n 2, 1, 0, 0, .null) := by decide +kernel
theorem k113_12 : am_cd am_x 113 12 = some (.iconst 1, 1, 0, 0, .null) := by decide +kernel
theorem k113_13 : am_cd am_x 113 13 = some (.if_icmp .le 5, 3, 18, 0, .null) := by decide +kernel
theorem k113_16 : am_cd am_x 113 16 = some (.iconst (-1), 1, 0, 0, .null) := by decide +kernel
theorem k113_17 : am_cd am_x 113 17 = some (.ireturn, 1, 0, 0, .null) := by decide +kernel
theorem k113_18 : am_cd am_x 113 18 = some (.aload_n 0, 1, 0, 0, .null) := by decide +kernel
theorem k113_19 : am_cd am_x 113 19 = some (.getfield 27, 3, 7, 4, .null) := by decide +kernel
theorem k113_22 : am_cd am_x 113 22 = some (.iload_n 1, 1, 0, 0, .null) := by decide +kernel
theorem k113_23 : am_cd am_x 113 23 = some (.baload, 1, 0, 0, .null) := by decide +kernel
theorem k113_24 : am_cd am_x 113 24 = some (.ifCond .eq 19, 3, 43, 0, .null) := by decide +kernel
theorem k113_27 : am_cd am_x 113 27 = some (.aload_n 0, 1, 0, 0, .null) := by decide +kernel
theorem k113_28 : am_cd am_x 113 28 = some (.getfield 19, 3, 7, 2, .null) := by decide +kernel
theorem k113_31 : am_cd am_x 113 31 = some (.aload_n 0, 1, 0, 0, .null) := by decide +kernel
theorem k113_32 : am_cd am_x 113 32 = some (.getfield 23, 3, 7, 3, .null) := by decide +kernel
theorem k113_35 : am_cd am_x 113 35 = some (.iload_n 1, 1, 0, 0, .null) := by decide +kernel
theorem k113_36 : am_cd am_x 113 36 = some (.aaload, 1, 0, 0, .null) := by decide +kernel
theorem k113_37 : am_cd am_x 113 37 = some (.invokevirtual 241, 3, 30, 0, .null) := by decide +kernel
theorem k113_40 : am_cd am_x 113 40 = some (.ifCond .ne 6, 3, 46, 0, .null) := by decide +kernel
theorem k113_43 : am_cd am_x 113 43 = some (.bipush (-2), 2, 0, 0, .null) := by decide +kernel
theorem k113_45 : am_cd am_x 113 45 = some (.ireturn, 1, 0, 0, .null) := by decide +kernel
theorem k113_46 : am_cd am_x 113 46 = some (.iload_n 2, 1, 0, 0, .null) := by decide +kernel
theorem k113_47 : am_cd am_x 113 47 = some (.ifCond .ne 19, 3, 66, 0, .null) := by decide +kernel
theorem k113_50 : am_cd am_x 113 50 = some (.aload_n 0, 1, 0, 0, .null) := by decide +kernel
theorem k113_51 : am_cd am_x 113 51 = some (.getfield 19, 3, 7, 2, .null) := by decide +kernel
theorem k113_54 : am_cd am_x 113 54 = some (.aload_n 0, 1, 0, 0, .null) := by decide +kernel
theorem k113_55 : am_cd am_x 113 55 = some (.getfield 23, 3, 7, 3, .null) := by decide +kernel
theorem k113_58 : am_cd am_x 113 58 = some (.iload_n 1, 1, 0, 0, .null) := by decide +kernel
theorem k113_59 : am_cd am_x 113 59 = some (.aaload, 1, 0, 0, .null) := by decide +kernel
theorem k113_60 : am_cd am_x 113 60 = some (.invokevirtual 245, 3, 32, 0, .null) := by decide +kernel
theorem k113_63 : am_cd am_x 113 63 = some (.goto 16, 3, 79, 0, .null) := by decide +kernel
theorem k113_66 : am_cd am_x 113 66 = some (.aload_n 0, 1, 0, 0, .null) := by decide +kernel
theorem k113_67 : am_cd am_x 113 67 = some (.getfield 19, 3, 7, 2, .null) := by decide +kernel
theorem k113_70 : am_cd am_x 113 70 = some (.aload_n 0, 1, 0, 0, .null) := by decide +kernel
theorem k113_71 : am_cd am_x 113 71 = some (.getfield 23, 3, 7, 3, .null) := by decide +kernel
theorem k113_74 : am_cd am_x 113 74 = some (.iload_n 1, 1, 0, 0, .null) := by decide +kernel
theorem k113_75 : am_cd am_x 113 75 = some (.aaload, 1, 0, 0, .null) := by decide +kernel
theorem k113_76 : am_cd am_x 113 76 = some (.invokevirtual 249, 3, 33, 0, .null) := by decide +kernel
theorem k113_79 : am_cd am_x 113 79 = some (.ireturn, 1, 0, 0, .null) := by decide +kernel
theorem k114_0 : am_cd am_x 114 0 = some (.iload_n 1, 1, 0, 0, .null) := by decide +kernel
theorem k114_1 : am_cd am_x 114 1 = some (.invokestatic 252, 3, 122, 0, .null) := by decide +kernel
theorem k114_4 : am_cd am_x 114 4 = some (.ifCond .eq 16, 3, 20, 0, .null) := by decide +kernel
theorem k114_7 : am_cd am_x 114 7 = some (.iload_n 2, 1, 0, 0, .null) := by decide +kernel
theorem k114_8 : am_cd am_x 114 8 = some (.invokestatic 255, 3, 123, 0, .null) := by decide +kernel
theorem k114_11 : am_cd am_x 114 11 = some (.ifCond .eq 9, 3, 20, 0, .null) := by decide +kernel
theorem k114_14 : am_cd am_x 114 14 = some (.iload_n 3, 1, 0, 0, .null) := by decide +kernel
theorem k114_15 : am_cd am_x 114 15 = some (.bipush 40, 2, 0, 0, .null) := by decide +kernel
theorem k114_17 : am_cd am_x 114 17 = some (.if_icmp .le 5, 3, 22, 0, .null) := by decide +kernel
theorem k114_20 : am_cd am_x 114 20 = some (.iconst (-1), 1, 0, 0, .null) := by decide +kernel
theorem k114_21 : am_cd am_x 114 21 = some (.ireturn, 1, 0, 0, .null) := by decide +kernel
theorem k114_22 : am_cd am_x 114 22 = some (.iload_n 3, 1, 0, 0, .null) := by decide +kernel
theorem k114_23 : am_cd am_x 114 23 = some (.ifCond .ge 6, 3, 29, 0, .null) := by decide +kernel
theorem k114_26 : am_cd am_x 114 26 = some (.bipush (-14), 2, 0, 0, .null) := by decide +kernel
theorem k114_28 : am_cd am_x 114 28 = some (.ireturn, 1, 0, 0, .null) := by decide +kernel
theorem k114_29 : am_cd am_x 114 29 = some (.aload_n 0, 1, 0, 0, .null) := by decide +kernel
theorem k114_30 : am_cd am_x 114 30 = some (.getfield 47, 3, 7, 7, .null) := by decide +kernel
theorem k114_33 : am_cd am_x 114 33 = some (.iload_n 1, 1, 0, 0, .null) := by decide +kernel
theorem k114_34 : am_cd am_x 114 34 = some (.aaload, 1, 0, 0, .null) := by decide +kernel
theorem k114_35 : am_cd am_x 114 35 = some (.iload_n 2, 1, 0, 0, .null) := by decide +kernel
theorem k114_36 : am_cd am_x 114 36 = some (.iload_n 3, 1, 0, 0, .null) := by decide +kernel
theorem k114_37 : am_cd am_x 114 37 = some (.invokevirtual 258, 3, 46, 3, .null) := by decide +kernel
theorem k114_40 : am_cd am_x 114 40 = some (.iconst 1, 1, 0, 0, .null) := by decide +kernel
theorem k114_41 : am_cd am_x 114 41 = some (.ireturn, 1, 0, 0, .null) := by decide +kernel
theorem k115_0 : am_cd am_x 115 0 = some (.iload_n 1, 1, 0, 0, .null) := by decide +kernel
theorem k115_1 : am_cd am_x 115 1 = some (.invokestatic 252, 3, 122, 0, .null) := by decide +kernel
theorem k115_4 : am_cd am_x 115 4 = some (.ifCond .ne 5, 3, 9, 0, .null) := by decide +kernel
theorem k115_7 : am_cd am_x 115 7 = some (.iconst (-1), 1, 0, 0, .null) := by decide +kernel
theorem k115_8 : am_cd am_x 115 8 = some (.ireturn, 1, 0, 0, .null) := by decide +kernel
theorem k115_9 : am_cd am_x 115 9 = some (.aload_n 0, 1, 0, 0, .null) := by decide +kernel
theorem k115_10 : am_cd am_x 115 10 = some (.getfield 47, 3, 7, 7, .null) := by decide +kernel
theorem k115_13 : am_cd am_x 115 13 = some (.iload_n 1, 1, 0, 0, .null) := by decide +kernel
theorem k115_14 : am_cd am_x 115 14 = some (.aaload, 1, 0, 0, .null) := by decide +kernel
theorem k115_15 : am_cd am_x 115 15 = some (.astore 4, 2, 0, 0, .null) := by decide +kernel
theorem k115_17 : am_cd am_x 115 17 = some (.aload 4, 2, 0, 0, .null) := by decide +kernel
theorem k115_19 : am_cd am_x 115 19 = some (.aload 4, 2, 0, 0, .null) := by decide +kernel
theorem k115_21 : am_cd am_x 115 21 = some (.getfield 262, 3, 3, 0, .null) := by decide +kernel
theorem k115_24 : am_cd am_x 115 24 = some (.iload_n 2, 1, 0, 0, .null) := by decide +kernel
theorem k115_25 : am_cd am_x 115 25 = some (.iconst 1, 1, 0, 0, .null) := by decide +kernel
theorem k115_26 : am_cd am_x 115 26 = some (.invokevirtual 265, 3, 47, 3, .null) := by decide +kernel
theorem k115_29 : am_cd am_x 115 29 = some (.istore 5, 2, 0, 0, .null) := by decide +kernel
theorem k115_31 : am_cd am_x 115 31 = some (.iload 5, 2, 0, 0, .null) := by decide +kernel
theorem k115_33 : am_cd am_x 115 33 = some (.ifCond .eq 9, 3, 42, 0, .null) := by decide +kernel
theorem k115_36 : am_cd am_x 115 36 = some (.bipush (-10), 2, 0, 0, .null) := by decide +kernel
theorem k115_38 : am_cd am_x 115 38 = some (.iload 5, 2, 0, 0, .null) := by decide +kernel
theorem k115_40 : am_cd am_x 115 40 = some (.isub, 1, 0, 0, .null) := by decide +kernel
theorem k115_41 : am_cd am_x 115 41 = some (.ireturn, 1, 0, 0, .null) := by decide +kernel
theorem k115_42 : am_cd am_x 115 42 = some (.aload 4, 2, 0, 0, .null) := by decide +kernel
theorem k115_44 : am_cd am_x 115 44 = some (.iload_n 2, 1, 0, 0, .null) := by decide +kernel
theorem k115_45 : am_cd am_x 115 45 = some (.iload_n 3, 1, 0, 0, .null) := by decide +kernel
theorem k115_46 : am_cd am_x 115 46 = some (.invokevirtual 269, 3, 48, 3, .null) := by decide +kernel
theorem k115_49 : am_cd am_x 115 49 = some (.iconst 1, 1, 0, 0, .null) := by decide +kernel
theorem k115_50 : am_cd am_x 115 50 = some (.ireturn, 1, 0, 0, .null) := by decide +kernel
theorem k116_0 : am_cd am_x 116 0 = some (.iload_n 1, 1, 0, 0, .null) := by decide +kernel
theorem k116_1 : am_cd am_x 116 1 = some (.invokestatic 252, 3, 122, 0, .null) := by decide +kernel
theorem k116_4 : am_cd am_x 116 4 = some (.ifCond .eq 22, 3, 26, 0, .null) := by decide +kernel
theorem k116_7 : am_cd am_x 116 7 = some (.iload_n 2, 1, 0, 0, .null) := by decide +kernel
theorem k116_8 : am_cd am_x 116 8 = some (.invokestatic 255, 3, 123, 0, .null) := by decide +kernel
theorem k116_11 : am_cd am_x 116 11 = some (.ifCond .eq 15, 3, 26, 0, .null) := by decide +kernel
theorem k116_14 : am_cd am_x 116 14 = some (.iload 4, 2, 0, 0, .null) := by decide +kernel
theorem k116_16 : am_cd am_x 116 16 = some (.ifCond .lt 10, 3, 26, 0, .null) := by decide +kernel
theorem k116_19 : am_cd am_x 116 19 = some (.iload 4, 2, 0, 0, .null) := by decide +kernel
theorem k116_21 : am_cd am_x 116 21 = some (.bipush 13, 2, 0, 0, .null) := by decide +kernel
theorem k116_23 : am_cd am_x 116 23 = some (.if_icmp .le 5, 3, 28, 0, .null) := by decide +kernel
theorem k116_26 : am_cd am_x 116 26 = some (.iconst (-1), 1, 0, 0, .null) := by decide +kernel
theorem k116_27 : am_cd am_x 116 27 = some (.ireturn, 1, 0, 0, .null) := by decide +kernel
theorem k116_28 : am_cd am_x 116 28 = some (.aload_n 0, 1, 0, 0, .null) := by decide +kernel
theorem k116_29 : am_cd am_x 116 29 = some (.getfield 47, 3, 7, 7, .null) := by decide +kernel
theorem k116_32 : am_cd am_x 116 32 = some (.iload_n 1, 1, 0, 0, .null) := by decide +kernel
theorem k116_33 : am_cd am_x 116 33 = some (.aaload, 1, 0, 0, .null) := by decide +kernel
theorem k116_34 : am_cd am_x 116 34 = some (.astore 5, 2, 0, 0, .null) := by decide +kernel
theorem k116_36 : am_cd am_x 116 36 = some (.iconst 0, 1, 0, 0, .null) := by decide +kernel
theorem k116_37 : am_cd am_x 116 37 = some (.istore 6, 2, 0, 0, .null) := by decide +kernel
theorem k116_39 : am_cd am_x 116 39 = some (.iconst 0, 1, 0, 0, .null) := by decide +kernel
theorem k116_40 : am_cd am_x 116 40 = some (.istore 7, 2, 0, 0, .null) := by decide +kernel
theorem k116_42 : am_cd am_x 116 42 = some (.iconst 0, 1, 0, 0, .null) := by decide +kernel
theorem k116_43 : am_cd am_x 116 43 = some (.istore 8, 2, 0, 0, .null) := by decide +kernel
theorem k116_45 : am_cd am_x 116 45 = some (.iload 8, 2, 0, 0, .null) := by decide +kernel
theorem k116_47 : am_cd am_x 116 47 = some (.iload 4, 2, 0, 0, .null) := by decide +kernel
theorem k116_49 : am_cd am_x 116 49 = some (.if_icmp .ge 85, 3, 134, 0, .null) := by decide +kernel
theorem k116_52 : am_cd am_x 116 52 = some (.iload 7, 2, 0, 0, .null) := by decide +kernel
theorem k116_54 : am_cd am_x 116 54 = some (.ifCond .ne 80, 3, 134, 0, .null) := by decide +kernel
theorem k116_57 : am_cd am_x 116 57 = some (.iload_n 3, 1, 0, 0, .null) := by decide +kernel
theorem k116_58 : am_cd am_x 116 58 = some (.iconst 3, 1, 0, 0, .null) := by decide +kernel
theorem k116_59 : am_cd am_x 116 59 = some (.iload 8, 2, 0, 0, .null) := by decide +kernel
theorem k116_61 : am_cd am_x 116 61 = some (.imul, 1, 0, 0, .null) := by decide +kernel
theorem k116_62 : am_cd am_x 116 62 = some (.iadd, 1, 0, 0, .null) := by decide +kernel
theorem k116_63 : am_cd am_x 116 63 = some (.istore 9, 2, 0, 0, .null) := by decide +kernel
theorem k116_65 : am_cd am_x 116 65 = some (.aload 5, 2, 0, 0, .null) := by decide +kernel
theorem k116_67 : am_cd am_x 116 67 = some (.iload_n 2, 1, 0, 0, .null) := by decide +kernel
theorem k116_68 : am_cd am_x 116 68 = some (.iload 9, 2, 0, 0, .null) := by decide +kernel
theorem k116_70 : am_cd am_x 116 70 = some (.iconst 3, 1, 0, 0, .null) := by decide +kernel
theorem k116_71 : am_cd am_x 116 71 = some (.invokevirtual 265, 3, 47, 3, .null) := by decide +kernel
theorem k116_74 : am_cd am_x 116 74 = some (.istore 7, 2, 0, 0, .null) := by decide +kernel
theorem k116_76 : am_cd am_x 116 76 = some (.iload 7, 2, 0, 0, .null) := by decide +kernel
theorem k116_78 : am_cd am_x 116 78 = some (.ifCond .ne 50, 3, 128, 0, .null) := by decide +kernel
theorem k116_81 : am_cd am_x 116 81 = some (.aload_n 0, 1, 0, 0, .null) := by decide +kernel
theorem k116_82 : am_cd am_x 116 82 = some (.getfield 19, 3, 7, 2, .null) := by decide +kernel
theorem k116_85 : am_cd am_x 116 85 = some (.aload 5, 2, 0, 0, .null) := by decide +kernel
theorem k116_87 : am_cd am_x 116 87 = some (.getfield 272, 3, 3, 2, .null) := by decide +kernel
theorem k116_90 : am_cd am_x 116 90 = some (.iload 9, 2, 0, 0, .null) := by decide +kernel
theorem k116_92 : am_cd am_x 116 92 = some (.iaload, 1, 0, 0, .null) := by decide +kernel
theorem k116_93 : am_cd am_x 116 93 = some (.aload 5, 2, 0, 0, .null) := by decide +kernel
theorem k116_95 : am_cd am_x 116 95 = some (.getfield 272, 3, 3, 2, .null) := by decide +kernel
theorem k116_98 : am_cd am_x 116 98 = some (.iload 9, 2, 0, 0, .null) := by decide +kernel
theorem k116_100 : am_cd am_x 116 100 = some (.iconst 1, 1, 0, 0, .null) := by decide +kernel
theorem k116_101 : am_cd am_x 116 101 = some (.iadd, 1, 0, 0, .null) := by decide +kernel
theorem k116_102 : am_cd am_x 116 102 = some (.iaload, 1, 0, 0, .null) := by decide +kernel
theorem k116_103 : am_cd am_x 116 103 = some (.aload 5, 2, 0, 0, .null) := by decide +kernel
theorem k116_105 : am_cd am_x 116 105 = some (.getfield 272, 3, 3, 2, .null) := by decide +kernel
theorem k116_108 : am_cd am_x 116 108 = some (.iload 9, 2, 0, 0, .null) := by decide +kernel
theorem k116_110 : am_cd am_x 116 110 = some (.iconst 2, 1, 0, 0, .null) := by decide +kernel
theorem k116_111 : am_cd am_x 116 111 = some (.iadd, 1, 0, 0, .null) := by decide +kernel
theorem k116_112 : am_cd am_x 116 112 = some (.iaload, 1, 0, 0, .null) := by decide +kernel
theorem k116_113 : am_cd am_x 116 113 = some (.invokevirtual 165, 3, 9, 0, .null) := by decide +kernel
theorem k116_116 : am_cd am_x 116 116 = some (.ifCond .ne 9, 3, 125, 0, .null) := by decide +kernel
theorem k116_119 : am_cd am_x 116 119 = some (.bipush (-20), 2, 0, 0, .null) := by decide +kernel
theorem k116_121 : am_cd am_x 116 121 = some (.iload 8, 2, 0, 0, .null) := by decide +kernel
theorem k116_123 : am_cd am_x 116 123 = some (.isub, 1, 0, 0, .null) := by decide +kernel
theorem k116_124 : am_cd am_x 116 124 = some (.ireturn, 1, 0, 0, .null) := by decide +kernel
theorem k116_125 : am_cd am_x 116 125 = some (.iinc 6 1, 3, 0, 0, .null) := by decide +kernel
theorem k116_128 : am_cd am_x 116 128 = some (.iinc 8 1, 3, 0, 0, .null) := by decide +kernel
theorem k116_131 : am_cd am_x 116 131 = some (.goto (-86), 3, 45, 0, .null) := by decide +kernel
theorem k116_134 : am_cd am_x 116 134 = some (.aload_n 0, 1, 0, 0, .null) := by decide +kernel
theorem k116_135 : am_cd am_x 116 135 = some (.aload 5, 2, 0, 0, .null) := by decide +kernel
theorem k116_137 : am_cd am_x 116 137 = some (.iload_n 3, 1, 0, 0, .null) := by decide +kernel
theorem k116_138 : am_cd am_x 116 138 = some (.iload 6, 2, 0, 0, .null) := by decide +kernel
theorem k116_140 : am_cd am_x 116 140 = some (.invokevirtual 273, 3, 119, 7, .null) := by decide +kernel
theorem k116_143 : am_cd am_x 116 143 = some (.aload_n 0, 1, 0, 0, .null) := by decide +kernel
theorem k116_144 : am_cd am_x 116 144 = some (.iload 7, 2, 0, 0, .null) := by decide +kernel
theorem k116_146 : am_cd am_x 116 146 = some (.putfield 277, 3, 7, 8, .int 0) := by decide +kernel
theorem k116_149 : am_cd am_x 116 149 = some (.iload 6, 2, 0, 0, .null) := by decide +kernel
theorem k116_151 : am_cd am_x 116 151 = some (.ireturn, 1, 0, 0, .null) := by decide +kernel
theorem k117_0 : am_cd am_x 117 0 = some (.aload_n 0, 1, 0, 0, .null) := by decide +kernel
theorem k117_1 : am_cd am_x 117 1 = some (.getfield 277, 3, 7, 8, .null) := by decide +kernel
theorem k117_4 : am_cd am_x 117 4 = some (.ireturn, 1, 0, 0, .null) := by decide +kernel
theorem k118_0 : am_cd am_x 118 0 = some (.iload_n 1, 1, 0, 0, .null) := by decide +kernel
theorem k118_1 : am_cd am_x 118 1 = some (.tableswitch 107 0 5 #[39, 44, 53, 64, 91, 99], 39, 0, 0, .null) := by decide +kernel
theorem k118_40 : am_cd am_x 118 40 = some (.aload_n 0, 1, 0, 0, .null) := by decide +kernel
theorem k118_41 : am_cd am_x 118 41 = some (.invokevirtual 280, 3, 120, 7, .null) := by decide +kernel
theorem k118_44 : am_cd am_x 118 44 = some (.ireturn, 1, 0, 0, .null) := by decide +kernel
theorem k118_45 : am_cd am_x 118 45 = some (.aload_n 0, 1, 0, 0, .null) := by decide +kernel
theorem k118_46 : am_cd am_x 118 46 = some (.getfield 19, 3, 7, 2, .null) := by decide +kernel
theorem k118_49 : am_cd am_x 118 49 = some (.iconst 1, 1, 0, 0, .null) := by decide +kernel
theorem k118_50 : am_cd am_x 118 50 = some (.invokevirtual 105, 3, 13, 0, .null) := by decide +kernel
theorem k118_53 : am_cd am_x 118 53 = some (.ireturn, 1, 0, 0, .null) := by decide +kernel
theorem k118_54 : am_cd am_x 118 54 = some (.aload_n 0, 1, 0, 0, .null) := by decide +kernel
theorem k118_55 : am_cd am_x 118 55 = some (.getfield 10, 3, 7, 0, .null) := by decide +kernel
theorem k118_58 : am_cd am_x 118 58 = some (.getfield 52, 3, 6, 0, .null) := by decide +kernel
theorem k118_61 : am_cd am_x 118 61 = some (.getfield 62, 3, 5, 1, .null) := by decide +kernel
theorem k118_64 : am_cd am_x 118 64 = some (.ireturn, 1, 0, 0, .null) := by decide +kernel
theorem k118_65 : am_cd am_x 118 65 = some (.aload_n 0, 1, 0, 0, .null) := by decide +kernel
theorem k118_66 : am_cd am_x 118 66 = some (.getfield 47, 3, 7, 7, .null) := by decide +kernel
theorem k118_69 : am_cd am_x 118 69 = some (.iconst 0, 1, 0, 0, .null) := by decide +kernel
theorem k118_70 : am_cd am_x 118 70 = some (.aaload, 1, 0, 0, .null) := by decide +kernel
theorem k118_71 : am_cd am_x 118 71 = some (.invokevirtual 283, 3, 45, 3, .null) := by decide +kernel
theorem k118_74 : am_cd am_x 118 74 = some (.ifCond .eq 8, 3, 82, 0, .null) := by decide +kernel
theorem k118_77 : am_cd am_x 118 77 = some (.bipush (-4), 2, 0, 0, .null) := by decide +kernel
theorem k118_79 : am_cd am_x 118 79 = some (.goto 12, 3, 91, 0, .null) := by decide +kernel
theorem k118_82 : am_cd am_x 118 82 = some (.aload_n 0, 1, 0, 0, .null) := by decide +kernel
theorem k118_83 : am_cd am_x 118 83 = some (.getfield 47, 3, 7, 7, .null) := by decide +kernel
theorem k118_86 : am_cd am_x 118 86 = some (.iconst 0, 1, 0, 0, .null) := by decide +kernel
theorem k118_87 : am_cd am_x 118 87 = some (.aaload, 1, 0, 0, .null) := by decide +kernel
theorem k118_88 : am_cd am_x 118 88 = some (.getfield 287, 3, 3, 1, .null) := by decide +kernel
theorem k118_91 : am_cd am_x 118 91 = some (.ireturn, 1, 0, 0, .null) := by decide +kernel
theorem k118_92 : am_cd am_x 118 92 = some (.aload_n 0, 1, 0, 0, .null) := by decide +kernel
theorem k118_93 : am_cd am_x 118 93 = some (.getfield 19, 3, 7, 2, .null) := by decide +kernel
theorem k118_96 : am_cd am_x 118 96 = some (.invokevirtual 288, 3, 14, 0, .null) := by decide +kernel
theorem k118_99 : am_cd am_x 118 99 = some (.ireturn, 1, 0, 0, .null) := by decide +kernel
theorem k118_100 : am_cd am_x 118 100 = some (.aload_n 0, 1, 0, 0, .null) := by decide +kernel
theorem k118_101 : am_cd am_x 118 101 = some (.getfield 19, 3, 7, 2, .null) := by decide +kernel
theorem k118_104 : am_cd am_x 118 104 = some (.invokevirtual 291, 3, 15, 0, .null) := by decide +kernel
theorem k118_107 : am_cd am_x 118 107 = some (.ireturn, 1, 0, 0, .null) := by decide +kernel
theorem k118_108 : am_cd am_x 118 108 = some (.iconst (-1), 1, 0, 0, .null) := by decide +kernel
theorem k118_109 : am_cd am_x 118 109 = some (.ireturn, 1, 0, 0, .null) := by decide +kernel
theorem k119_0 : am_cd am_x 119 0 = some (.iconst 0, 1, 0, 0, .null) := by decide +kernel
theorem k119_1 : am_cd am_x 119 1 = some (.istore 4, 2, 0, 0, .null) := by decide +kernel
theorem k119_3 : am_cd am_x 119 3 = some (.iload 4, 2, 0, 0, .null) := by decide +kernel
theorem k119_5 : am_cd am_x 119 5 = some (.iload_n 3, 1, 0, 0, .null) := by decide +kernel
theorem k119_6 : am_cd am_x 119 6 = some (.if_icmp .ge 53, 3, 59, 0, .null) := by decide +kernel
theorem k119_9 : am_cd am_x 119 9 = some (.iload_n 2, 1, 0, 0, .null) := by decide +kernel
theorem k119_10 : am_cd am_x 119 10 = some (.iconst 3, 1, 0, 0, .null) := by decide +kernel
theorem k119_11 : am_cd am_x 119 11 = some (.iload 4, 2, 0, 0, .null) := by decide +kernel
theorem k119_13 : am_cd am_x 119 13 = some (.imul, 1, 0, 0, .null) := by decide +kernel
theorem k119_14 : am_cd am_x 119 14 = some (.iadd, 1, 0, 0, .null) := by decide +kernel
theorem k119_15 : am_cd am_x 119 15 = some (.istore 5, 2, 0, 0, .null) := by decide +kernel
theorem k119_17 : am_cd am_x 119 17 = some (.aload_n 0, 1, 0, 0, .null) := by decide +kernel
theorem k119_18 : am_cd am_x 119 18 = some (.getfield 19, 3, 7, 2, .null) := by decide +kernel
theorem k119_21 : am_cd am_x 119 21 = some (.getfield 113, 3, 0, 7, .null) := by decide +kernel
theorem k119_24 : am_cd am_x 119 24 = some (.aload_n 1, 1, 0, 0, .null) := by decide +kernel
theorem k119_25 : am_cd am_x 119 25 = some (.getfield 272, 3, 3, 2, .null) := by decide +kernel
theorem k119_28 : am_cd am_x 119 28 = some (.iload 5, 2, 0, 0, .null) := by decide +kernel
theorem k119_30 : am_cd am_x 119 30 = some (.iaload, 1, 0, 0, .null) := by decide +kernel
theorem k119_31 : am_cd am_x 119 31 = some (.aload_n 1, 1, 0, 0, .null) := by decide +kernel
theorem k119_32 : am_cd am_x 119 32 = some (.getfield 272, 3, 3, 2, .null) := by decide +kernel
theorem k119_35 : am_cd am_x 119 35 = some (.iload 5, 2, 0, 0, .null) := by decide +kernel
theorem k119_37 : am_cd am_x 119 37 = some (.iconst 1, 1, 0, 0, .null) := by decide +kernel
theorem k119_38 : am_cd am_x 119 38 = some (.iadd, 1, 0, 0, .null) := by decide +kernel
theorem k119_39 : am_cd am_x 119 39 = some (.iaload, 1, 0, 0, .null) := by decide +kernel
theorem k119_40 : am_cd am_x 119 40 = some (.invokestatic 117, 3, 5, 0, .null) := by decide +kernel
theorem k119_43 : am_cd am_x 119 43 = some (.aload_n 1, 1, 0, 0, .null) := by decide +kernel
theorem k119_44 : am_cd am_x 119 44 = some (.getfield 272, 3, 3, 2, .null) := by decide +kernel
theorem k119_47 : am_cd am_x 119 47 = some (.iload 5, 2, 0, 0, .null) := by decide +kernel
theorem k119_49 : am_cd am_x 119 49 = some (.iconst 2, 1, 0, 0, .null) := by decide +kernel
theorem k119_50 : am_cd am_x 119 50 = some (.iadd, 1, 0, 0, .null) := by decide +kernel
theorem k119_51 : am_cd am_x 119 51 = some (.iaload, 1, 0, 0, .null) := by decide +kernel
theorem k119_52 : am_cd am_x 119 52 = some (.iastore, 1, 0, 0, .null) := by decide +kernel
theorem k119_53 : am_cd am_x 119 53 = some (.iinc 4 1, 3, 0, 0, .null) := by decide +kernel
theorem k119_56 : am_cd am_x 119 56 = some (.goto (-53), 3, 3, 0, .null) := by decide +kernel
theorem k119_59 : am_cd am_x 119 59 = some (.return_, 1, 0, 0, .null) := by decide +kernel
theorem k120_0 : am_cd am_x 120 0 = some (.iconst 0, 1, 0, 0, .null) := by decide +kernel
theorem k120_1 : am_cd am_x 120 1 = some (.istore_n 1, 1, 0, 0, .null) := by decide +kernel
theorem k120_2 : am_cd am_x 120 2 = some (.iconst 0, 1, 0, 0, .null) := by decide +kernel
theorem k120_3 : am_cd am_x 120 3 = some (.istore_n 2, 1, 0, 0, .null) := by decide +kernel
theorem k120_4 : am_cd am_x 120 4 = some (.iload_n 2, 1, 0, 0, .null) := by decide +kernel
theorem k120_5 : am_cd am_x 120 5 = some (.iconst 2, 1, 0, 0, .null) := by decide +kernel
theorem k120_6 : am_cd am_x 120 6 = some (.if_icmp .ge 21, 3, 27, 0, .null) := by decide +kernel
theorem k120_9 : am_cd am_x 120 9 = some (.aload_n 0, 1, 0, 0, .null) := by decide +kernel
theorem k120_10 : am_cd am_x 120 10 = some (.getfield 27, 3, 7, 4, .null) := by decide +kernel
theorem k120_13 : am_cd am_x 120 13 = some (.iload_n 2, 1, 0, 0, .null) := by decide +kernel
theorem k120_14 : am_cd am_x 120 14 = some (.baload, 1, 0, 0, .null) := by decide +kernel
theorem k120_15 : am_cd am_x 120 15 = some (.ifCond .eq 6, 3, 21, 0, .null) := by decide +kernel
theorem k120_18 : am_cd am_x 120 18 = some (.iinc 1 1, 3, 0, 0, .null) := by decide +kernel
theorem k120_21 : am_cd am_x 120 21 = some (.iinc 2 1, 3, 0, 0, .null) := by decide +kernel
theorem k120_24 : am_cd am_x 120 24 = some (.goto (-20), 3, 4, 0, .null) := by decide +kernel
theorem k120_27 : am_cd am_x 120 27 = some (.iload_n 1, 1, 0, 0, .null) := by decide +kernel
theorem k120_28 : am_cd am_x 120 28 = some (.ireturn, 1, 0, 0, .null) := by decide +kernel
theorem k121_0 : am_cd am_x 121 0 = some (.iload_n 0, 1, 0, 0, .null) := by decide +kernel
theorem k121_1 : am_cd am_x 121 1 = some (.ifCond .lt 12, 3, 13, 0, .null) := by decide +kernel
theorem k121_4 : am_cd am_x 121 4 = some (.iload_n 0, 1, 0, 0, .null) := by decide +kernel
theorem k121_5 : am_cd am_x 121 5 = some (.iconst 2, 1, 0, 0, .null) := by decide +kernel
theorem k121_6 : am_cd am_x 121 6 = some (.if_icmp .ge 7, 3, 13, 0, .null) := by decide +kernel
theorem k121_9 : am_cd am_x 121 9 = some (.iconst 1, 1, 0, 0, .null) := by decide +kernel
theorem k121_10 : am_cd am_x 121 10 = some (.goto 4, 3, 14, 0, .null) := by decide +kernel
theorem k121_13 : am_cd am_x 121 13 = some (.iconst 0, 1, 0, 0, .null) := by decide +kernel
theorem k121_14 : am_cd am_x 121 14 = some (.ireturn, 1, 0, 0, .null) := by decide +kernel
theorem k122_0 : am_cd am_x 122 0 = some (.iload_n 0, 1, 0, 0, .null) := by decide +kernel
theorem k122_1 : am_cd am_x 122 1 = some (.ifCond .lt 12, 3, 13, 0, .null) := by decide +kernel
theorem k122_4 : am_cd am_x 122 4 = some (.iload_n 0, 1, 0, 0, .null) := by decide +kernel
theorem k122_5 : am_cd am_x 122 5 = some (.iconst 4, 1, 0, 0, .null) := by decide +kernel
theorem k122_6 : am_cd am_x 122 6 = some (.if_icmp .ge 7, 3, 13, 0, .null) := by decide +kernel
theorem k122_9 : am_cd am_x 122 9 = some (.iconst 1, 1, 0, 0, .null) := by decide +kernel
theorem k122_10 : am_cd am_x 122 10 = some (.goto 4, 3, 14, 0, .null) := by decide +kernel
theorem k122_13 : am_cd am_x 122 13 = some (.iconst 0, 1, 0, 0, .null) := by decide +kernel
theorem k122_14 : am_cd am_x 122 14 = some (.ireturn, 1, 0, 0, .null) := by decide +kernel
theorem k123_0 : am_cd am_x 123 0 = some (.iload_n 0, 1, 0, 0, .null) := by decide +kernel
theorem k123_1 : am_cd am_x 123 1 = some (.ifCond .lt 12, 3, 13, 0, .null) := by decide +kernel
theorem k123_4 : am_cd am_x 123 4 = some (.iload_n 0, 1, 0, 0, .null) := by decide +kernel
theorem k123_5 : am_cd am_x 123 5 = some (.iconst 3, 1, 0, 0, .null) := by decide +kernel
theorem k123_6 : am_cd am_x 123 6 = some (.if_icmp .ge 7, 3, 13, 0, .null) := by decide +kernel
theorem k123_9 : am_cd am_x 123 9 = some (.iconst 1, 1, 0, 0, .null) := by decide +kernel
theorem k123_10 : am_cd am_x 123 10 = some (.goto 4, 3, 14, 0, .null) := by decide +kernel
theorem k123_13 : am_cd am_x 123 13 = some (.iconst 0, 1, 0, 0, .null) := by decide +kernel
theorem k123_14 : am_cd am_x 123 14 = some (.ireturn, 1, 0, 0, .null) := by decide +kernel
theorem k125_0 : am_cd am_x 125 0 = some (.lload_n 0, 1, 0, 0, .null) := by decide +kernel
theorem k125_1 : am_cd am_x 125 1 = some (.lload_n 2, 1, 0, 0, .null) := by decide +kernel
theorem k125_2 : am_cd am_x 125 2 = some (.lcmp, 1, 0, 0, .null) := by decide +kernel
theorem k125_3 : am_cd am_x 125 3 = some (.ifCond .lt 14, 3, 17, 0, .null) := by decide +kernel
theorem k125_6 : am_cd am_x 125 6 = some (.lload_n 0, 1, 0, 0, .null) := by decide +kernel
theorem k125_7 : am_cd am_x 125 7 = some (.lload 4, 2, 0, 0, .null) := by decide +kernel
theorem k125_9 : am_cd am_x 125 9 = some (.lcmp, 1, 0, 0, .null) := by decide +kernel
theorem k125_10 : am_cd am_x 125 10 = some (.ifCond .gt 7, 3, 17, 0, .null) := by decide +kernel
theorem k125_13 : am_cd am_x 125 13 = some (.iconst 1, 1, 0, 0, .null) := by decide +kernel
theorem k125_14 : am_cd am_x 125 14 = some (.goto 4, 3, 18, 0, .null) := by decide +kernel
theorem k125_17 : am_cd am_x 125 17 = some (.iconst 0, 1, 0, 0, .null) := by decide +kernel
theorem k125_18 : am_cd am_x 125 18 = some (.ireturn, 1, 0, 0, .null) := by decide +kernel
theorem k126_0 : am_cd am_x 126 0 = some (.iload_n 0, 1, 0, 0, .null) := by decide +kernel
theorem k126_1 : am_cd am_x 126 1 = some (.ifCond .eq 7, 3, 8, 0, .null) := by decide +kernel
theorem k126_4 : am_cd am_x 126 4 = some (.iconst 1, 1, 0, 0, .null) := by decide +kernel
theorem k126_5 : am_cd am_x 126 5 = some (.goto 4, 3, 9, 0, .null) := by decide +kernel
theorem k126_8 : am_cd am_x 126 8 = some (.iconst 0, 1, 0, 0, .null) := by decide +kernel
theorem k126_9 : am_cd am_x 126 9 = some (.ireturn, 1, 0, 0, .null) := by decide +kernel
theorem k127_0 : am_cd am_x 127 0 = some (.iload_n 0, 1, 0, 0, .null) := by decide +kernel
theorem k127_1 : am_cd am_x 127 1 = some (.iload_n 1, 1, 0, 0, .null) := by decide +kernel
theorem k127_2 : am_cd am_x 127 2 = some (.ishr, 1, 0, 0, .null) := by decide +kernel
theorem k127_3 : am_cd am_x 127 3 = some (.iconst 1, 1, 0, 0, .null) := by decide +kernel
theorem k127_4 : am_cd am_x 127 4 = some (.iand, 1, 0, 0, .null) := by decide +kernel
theorem k127_5 : am_cd am_x 127 5 = some (.iconst 1, 1, 0, 0, .null) := by decide +kernel
theorem k127_6 : am_cd am_x 127 6 = some (.if_icmp .ne 7, 3, 13, 0, .null) := by decide +kernel
theorem k127_9 : am_cd am_x 127 9 = some (.iconst 1, 1, 0, 0, .null) := by decide +kernel
theorem k127_10 : am_cd am_x 127 10 = some (.goto 4, 3, 14, 0, .null) := by decide +kernel
theorem k127_13 : am_cd am_x 127 13 = some (.iconst 0, 1, 0, 0, .null) := by decide +kernel
theorem k127_14 : am_cd am_x 127 14 = some (.ireturn, 1, 0, 0, .null) := by decide +kernel
theorem k128_0 : am_cd am_x 128 0 = some (.iconst 0, 1, 0, 0, .null) := by decide +kernel
theorem k128_1 : am_cd am_x 128 1 = some (.istore_n 1, 1, 0, 0, .null) := by decide +kernel
theorem k128_2 : am_cd am_x 128 2 = some (.iconst 0, 1, 0, 0, .null) := by decide +kernel
theorem k128_3 : am_cd am_x 128 3 = some (.istore_n 2, 1, 0, 0, .null) := by decide +kernel
theorem k128_4 : am_cd am_x 128 4 = some (.iload_n 2, 1, 0, 0, .null) := by decide +kernel
theorem k128_5 : am_cd am_x 128 5 = some (.bipush 20, 2, 0, 0, .null) := by decide +kernel
theorem k128_7 : am_cd am_x 128 7 = some (.if_icmp .ge 17, 3, 24, 0, .null) := by decide +kernel
theorem k128_10 : am_cd am_x 128 10 = some (.iload_n 1, 1, 0, 0, .null) := by decide +kernel
theorem k128_11 : am_cd am_x 128 11 = some (.iload_n 0, 1, 0, 0, .null) := by decide +kernel
theorem k128_12 : am_cd am_x 128 12 = some (.iload_n 2, 1, 0, 0, .null) := by decide +kernel
theorem k128_13 : am_cd am_x 128 13 = some (.ishr, 1, 0, 0, .null) := by decide +kernel
theorem k128_14 : am_cd am_x 128 14 = some (.iconst 1, 1, 0, 0, .null) := by decide +kernel
theorem k128_15 : am_cd am_x 128 15 = some (.iand, 1, 0, 0, .null) := by decide +kernel
theorem k128_16 : am_cd am_x 128 16 = some (.iadd, 1, 0, 0, .null) := by decide +kernel
theorem k128_17 : am_cd am_x 128 17 = some (.istore_n 1, 1, 0, 0, .null) := by decide +kernel
theorem k128_18 : am_cd am_x 128 18 = some (.iinc 2 1, 3, 0, 0, .null) := by decide +kernel
theorem k128_21 : am_cd am_x 128 21 = some (.goto (-17), 3, 4, 0, .null) := by decide +kernel
theorem k128_24 : am_cd am_x 128 24 = some (.iload_n 1, 1, 0, 0, .null) := by decide +kernel
theorem k128_25 : am_cd am_x 128 25 = some (.ireturn, 1, 0, 0, .null) := by decide +kernel
theorem k129_0 : am_cd am_x 129 0 = some (.iconst 0, 1, 0, 0, .null) := by decide +kernel
theorem k129_1 : am_cd am_x 129 1 = some (.istore_n 1, 1, 0, 0, .null) := by decide +kernel
theorem k129_2 : am_cd am_x 129 2 = some (.iload_n 1, 1, 0, 0, .null) := by decide +kernel
theorem k129_3 : am_cd am_x 129 3 = some (.sipush 151, 3, 0, 0, .null) := by decide +kernel
theorem k129_6 : am_cd am_x 129 6 = some (.if_icmp .ge 34, 3, 40, 0, .null) := by decide +kernel
theorem k129_9 : am_cd am_x 129 9 = some (.aload_n 0, 1, 0, 0, .null) := by decide +kernel
theorem k129_10 : am_cd am_x 129 10 = some (.getfield 20, 3, 8, 3, .null) := by decide +kernel
theorem k129_13 : am_cd am_x 129 13 = some (.iload_n 1, 1, 0, 0, .null) := by decide +kernel
theorem k129_14 : am_cd am_x 129 14 = some (.iload_n 1, 1, 0, 0, .null) := by decide +kernel
theorem k129_15 : am_cd am_x 129 15 = some (.i2l, 1, 0, 0, .null) := by decide +kernel
theorem k129_16 : am_cd am_x 129 16 = some (.ldc2_w 56, 3, 0, 0, .long 7) := by decide +kernel
theorem k129_19 : am_cd am_x 129 19 = some (.ldc2_w 58, 3, 0, 0, .long 134) := by decide +kernel
theorem k129_22 : am_cd am_x 129 22 = some (.invokestatic 60, 3, 125, 0, .null) := by decide +kernel
theorem k129_25 : am_cd am_x 129 25 = some (.ifCond .eq 7, 3, 32, 0, .null) := by decide +kernel
theorem k129_28 : am_cd am_x 129 28 = some (.iconst 2, 1, 0, 0, .null) := by decide +kernel
theorem k129_29 : am_cd am_x 129 29 = some (.goto 4, 3, 33, 0, .null) := by decide +kernel
theorem k129_32 : am_cd am_x 129 32 = some (.iconst 0, 1, 0, 0, .null) := by decide +kernel
theorem k129_33 : am_cd am_x 129 33 = some (.iastore, 1, 0, 0, .null) := by decide +kernel
theorem k129_34 : am_cd am_x 129 34 = some (.iinc 1 1, 3, 0, 0, .null) := by decide +kernel
theorem k129_37 : am_cd am_x 129 37 = some (.goto (-35), 3, 2, 0, .null) := by decide +kernel
theorem k129_40 : am_cd am_x 129 40 = some (.aload_n 0, 1, 0, 0, .null) := by decide +kernel
theorem k129_41 : am_cd am_x 129 41 = some (.getfield 20, 3, 8, 3, .null) := by decide +kernel
theorem k129_44 : am_cd am_x 129 44 = some (.iconst 4, 1, 0, 0, .null) := by decide +kernel
theorem k129_45 : am_cd am_x 129 45 = some (.iconst 4, 1, 0, 0, .null) := by decide +kernel
theorem k129_46 : am_cd am_x 129 46 = some (.iastore, 1, 0, 0, .null) := by decide +kernel
theorem k129_47 : am_cd am_x 129 47 = some (.aload_n 0, 1, 0, 0, .null) := by decide +kernel
theorem k129_48 : am_cd am_x 129 48 = some (.getfield 20, 3, 8, 3, .null) := by decide +kernel
theorem k129_51 : am_cd am_x 129 51 = some (.iconst 5, 1, 0, 0, .null) := by decide +kernel
theorem k129_52 : am_cd am_x 129 52 = some (.iconst 1, 1, 0, 0, .null) := by decide +kernel
theorem k129_53 : am_cd am_x 129 53 = some (.iastore, 1, 0, 0, .null) := by decide +kernel
theorem k129_54 : am_cd am_x 129 54 = some (.aload_n 0, 1, 0, 0, .null) := by decide +kernel
theorem k129_55 : am_cd am_x 129 55 = some (.getfield 20, 3, 8, 3, .null) := by decide +kernel
theorem k129_58 : am_cd am_x 129 58 = some (.bipush 6, 2, 0, 0, .null) := by decide +kernel
theorem k129_60 : am_cd am_x 129 60 = some (.iconst 1, 1, 0, 0, .null) := by decide +kernel
theorem k129_61 : am_cd am_x 129 61 = some (.iastore, 1, 0, 0, .null) := by decide +kernel
theorem k129_62 : am_cd am_x 129 62 = some (.aload_n 0, 1, 0, 0, .null) := by decide +kernel
theorem k129_63 : am_cd am_x 129 63 = some (.iconst 0, 1, 0, 0, .null) := by decide +kernel
theorem k129_64 : am_cd am_x 129 64 = some (.putfield 64, 3, 8, 4, .int 1) := by decide +kernel
theorem k129_67 : am_cd am_x 129 67 = some (.aload_n 0, 1, 0, 0, .null) := by decide +kernel
theorem k129_68 : am_cd am_x 129 68 = some (.iconst 0, 1, 0, 0, .null) := by decide +kernel
theorem k129_69 : am_cd am_x 129 69 = some (.putfield 68, 3, 8, 5, .int 1) := by decide +kernel
theorem k129_72 : am_cd am_x 129 72 = some (.aload_n 0, 1, 0, 0, .null) := by decide +kernel
theorem k129_73 : am_cd am_x 129 73 = some (.iconst 0, 1, 0, 0, .null) := by decide +kernel
theorem k129_74 : am_cd am_x 129 74 = some (.putfield 71, 3, 8, 6, .int 1) := by decide +kernel
theorem k129_77 : am_cd am_x 129 77 = some (.aload_n 0, 1, 0, 0, .null) := by decide +kernel
theorem k129_78 : am_cd am_x 129 78 = some (.iconst 0, 1, 0, 0, .null) := by decide +kernel
theorem k129_79 : am_cd am_x 129 79 = some (.putfield 74, 3, 8, 10, .int 1) := by decide +kernel
theorem k129_82 : am_cd am_x 129 82 = some (.aload_n 0, 1, 0, 0, .null) := by decide +kernel
theorem k129_83 : am_cd am_x 129 83 = some (.iconst (-1), 1, 0, 0, .null) := by decide +kernel
theorem k129_84 : am_cd am_x 129 84 = some (.putfield 77, 3, 8, 7, .int 0) := by decide +kernel
theorem k129_87 : am_cd am_x 129 87 = some (.aload_n 0, 1, 0, 0, .null) := by decide +kernel
theorem k129_88 : am_cd am_x 129 88 = some (.iconst (-1), 1, 0, 0, .null) := by decide +kernel
theorem k129_89 : am_cd am_x 129 89 = some (.putfield 81, 3, 8, 8, .int 0) := by decide +kernel
theorem k129_92 : am_cd am_x 129 92 = some (.aload_n 0, 1, 0, 0, .null) := by decide +kernel
theorem k129_93 : am_cd am_x 129 93 = some (.iconst (-1), 1, 0, 0, .null) := by decide +kernel
theorem k129_94 : am_cd am_x 129 94 = some (.putfield 84, 3, 8, 9, .int 0) := by decide +kernel
theorem k129_97 : am_cd am_x 129 97 = some (.return_, 1, 0, 0, .null) := by decide +kernel
theorem k130_0 : am_cd am_x 130 0 = some (.iconst 1, 1, 0, 0, .null) := by decide +kernel
theorem k130_1 : am_cd am_x 130 1 = some (.iconst 2, 1, 0, 0, .null) := by decide +kernel
theorem k130_2 : am_cd am_x 130 2 = some (.iload_n 0, 1, 0, 0, .null) := by decide +kernel
theorem k130_3 : am_cd am_x 130 3 = some (.imul, 1, 0, 0, .null) := by decide +kernel
theorem k130_4 : am_cd am_x 130 4 = some (.ishl, 1, 0, 0, .null) := by decide +kernel
theorem k130_5 : am_cd am_x 130 5 = some (.iconst 1, 1, 0, 0, .null) := by decide +kernel
theorem k130_6 : am_cd am_x 130 6 = some (.isub, 1, 0, 0, .null) := by decide +kernel
theorem k130_7 : am_cd am_x 130 7 = some (.ldc 87, 2, 0, 0, .int 65536) := by decide +kernel
theorem k130_9 : am_cd am_x 130 9 = some (.ior, 1, 0, 0, .null) := by decide +kernel
theorem k130_10 : am_cd am_x 130 10 = some (.ireturn, 1, 0, 0, .null) := by decide +kernel
theorem k131_0 : am_cd am_x 131 0 = some (.iconst 0, 1, 0, 0, .null) := by decide +kernel
theorem k131_1 : am_cd am_x 131 1 = some (.istore_n 1, 1, 0, 0, .null) := by decide +kernel
theorem k131_2 : am_cd am_x 131 2 = some (.iload_n 1, 1, 0, 0, .null) := by decide +kernel
theorem k131_3 : am_cd am_x 131 3 = some (.bipush 8, 2, 0, 0, .null) := by decide +kernel
theorem k131_5 : am_cd am_x 131 5 = some (.if_icmp .ge 28, 3, 33, 0, .null) := by decide +kernel
theorem k131_8 : am_cd am_x 131 8 = some (.aload_n 0, 1, 0, 0, .null) := by decide +kernel
theorem k131_9 : am_cd am_x 131 9 = some (.getfield 20, 3, 8, 3, .null) := by decide +kernel
theorem k131_12 : am_cd am_x 131 12 = some (.sipush 143, 3, 0, 0, .null) := by decide +kernel
theorem k131_15 : am_cd am_x 131 15 = some (.iload_n 1, 1, 0, 0, .null) := by decide +kernel
theorem k131_16 : am_cd am_x 131 16 = some (.iadd, 1, 0, 0, .null) := by decide +kernel
theorem k131_17 : am_cd am_x 131 17 = some (.aload_n 0, 1, 0, 0, .null) := by decide +kernel
theorem k131_18 : am_cd am_x 131 18 = some (.getfield 20, 3, 8, 3, .null) := by decide +kernel
theorem k131_21 : am_cd am_x 131 21 = some (.iconst 1, 1, 0, 0, .null) := by decide +kernel
theorem k131_22 : am_cd am_x 131 22 = some (.iaload, 1, 0, 0, .null) := by decide +kernel
theorem k131_23 : am_cd am_x 131 23 = some (.invokestatic 88, 3, 130, 0, .null) := by decide +kernel
theorem k131_26 : am_cd am_x 131 26 = some (.iastore, 1, 0, 0, .null) := by decide +kernel
theorem k131_27 : am_cd am_x 131 27 = some (.iinc 1 1, 3, 0, 0, .null) := by decide +kernel
theorem k131_30 : am_cd am_x 131 30 = some (.goto (-28), 3, 2, 0, .null) := by decide +kernel
theorem k131_33 : am_cd am_x 131 33 = some (.iconst 0, 1, 0, 0, .null) := by decide +kernel
theorem k131_34 : am_cd am_x 131 34 = some (.istore_n 1, 1, 0, 0, .null) := by decide +kernel
theorem k131_35 : am_cd am_x 131 35 = some (.iload_n 1, 1, 0, 0, .null) := by decide +kernel
theorem k131_36 : am_cd am_x 131 36 = some (.sipush 151, 3, 0, 0, .null) := by decide +kernel
theorem k131_39 : am_cd am_x 131 39 = some (.if_icmp .ge 21, 3, 60, 0, .null) := by decide +kernel
theorem k131_42 : am_cd am_x 131 42 = some (.aload_n 0, 1, 0, 0, .null) := by decide +kernel
theorem k131_43 : am_cd am_x 131 43 = some (.getfield 7, 3, 8, 0, .null) := by decide +kernel
theorem k131_46 : am_cd am_x 131 46 = some (.iload_n 1, 1, 0, 0, .null) := by decide +kernel
theorem k131_47 : am_cd am_x 131 47 = some (.aload_n 0, 1, 0, 0, .null) := by decide +kernel
theorem k131_48 : am_cd am_x 131 48 = some (.getfield 20, 3, 8, 3, .null) := by decide +kernel
theorem k131_51 : am_cd am_x 131 51 = some (.iload_n 1, 1, 0, 0, .null) := by decide +kernel
theorem k131_52 : am_cd am_x 131 52 = some (.iaload, 1, 0, 0, .null) := by decide +kernel
theorem k131_53 : am_cd am_x 131 53 = some (.iastore, 1, 0, 0, .null) := by decide +kernel
theorem k131_54 : am_cd am_x 131 54 = some (.iinc 1 1, 3, 0, 0, .null) := by decide +kernel
theorem k131_57 : am_cd am_x 131 57 = some (.goto (-22), 3, 35, 0, .null) := by decide +kernel
theorem k131_60 : am_cd am_x 131 60 = some (.aload_n 0, 1, 0, 0, .null) := by decide +kernel
theorem k131_61 : am_cd am_x 131 61 = some (.getfield 16, 3, 8, 2, .null) := by decide +kernel
theorem k131_64 : am_cd am_x 131 64 = some (.iconst 0, 1, 0, 0, .null) := by decide +kernel
theorem k131_65 : am_cd am_x 131 65 = some (.iconst 0, 1, 0, 0, .null) := by decide +kernel
theorem k131_66 : am_cd am_x 131 66 = some (.bastore, 1, 0, 0, .null) := by decide +kernel
theorem k131_67 : am_cd am_x 131 67 = some (.aload_n 0, 1, 0, 0, .null) := by decide +kernel
theorem k131_68 : am_cd am_x 131 68 = some (.getfield 16, 3, 8, 2, .null) := by decide +kernel
theorem k131_71 : am_cd am_x 131 71 = some (.iconst 1, 1, 0, 0, .null) := by decide +kernel
theorem k131_72 : am_cd am_x 131 72 = some (.iconst 0, 1, 0, 0, .null) := by decide +kernel
theorem k131_73 : am_cd am_x 131 73 = some (.bastore, 1, 0, 0, .null) := by decide +kernel
theorem k131_74 : am_cd am_x 131 74 = some (.return_, 1, 0, 0, .null) := by decide +kernel
theorem k132_0 : am_cd am_x 132 0 = some (.iload_n 1, 1, 0, 0, .null) := by decide +kernel
theorem k132_1 : am_cd am_x 132 1 = some (.i2l, 1, 0, 0, .null) := by decide +kernel
theorem k132_2 : am_cd am_x 132 2 = some (.lconst 0, 1, 0, 0, .null) := by decide +kernel
theorem k132_3 : am_cd am_x 132 3 = some (.ldc2_w 92, 3, 0, 0, .long 127) := by decide +kernel
theorem k132_6 : am_cd am_x 132 6 = some (.invokestatic 60, 3, 125, 0, .null) := by decide +kernel
theorem k132_9 : am_cd am_x 132 9 = some (.ifCond .ne 5, 3, 14, 0, .null) := by decide +kernel
theorem k132_12 : am_cd am_x 132 12 = some (.iconst (-1), 1, 0, 0, .null) := by decide +kernel
theorem k132_13 : am_cd am_x 132 13 = some (.ireturn, 1, 0, 0, .null) := by decide +kernel
theorem k132_14 : am_cd am_x 132 14 = some (.aload_n 0, 1, 0, 0, .null) := by decide +kernel
theorem k132_15 : am_cd am_x 132 15 = some (.getfield 94, 3, 8, 12, .null) := by decide +kernel
theorem k132_18 : am_cd am_x 132 18 = some (.sipush 160, 3, 0, 0, .null) := by decide +kernel
theorem k132_21 : am_cd am_x 132 21 = some (.if_icmp .ne 6, 3, 27, 0, .null) := by decide +kernel
theorem k132_24 : am_cd am_x 132 24 = some (.bipush (-3), 2, 0, 0, .null) := by decide +kernel
theorem k132_26 : am_cd am_x 132 26 = some (.ireturn, 1, 0, 0, .null) := by decide +kernel
theorem k132_27 : am_cd am_x 132 27 = some (.aload_n 0, 1, 0, 0, .null) := by decide +kernel
theorem k132_28 : am_cd am_x 132 28 = some (.getfield 23, 3, 8, 11, .null) := by decide +kernel
theorem k132_31 : am_cd am_x 132 31 = some (.aload_n 0, 1, 0, 0, .null) := by decide +kernel
theorem k132_32 : am_cd am_x 132 32 = some (.getfield 94, 3, 8, 12, .null) := by decide +kernel
theorem k132_35 : am_cd am_x 132 35 = some (.iload_n 1, 1, 0, 0, .null) := by decide +kernel
theorem k132_36 : am_cd am_x 132 36 = some (.iastore, 1, 0, 0, .null) := by decide +kernel
theorem k132_37 : am_cd am_x 132 37 = some (.aload_n 0, 1, 0, 0, .null) := by decide +kernel
theorem k132_38 : am_cd am_x 132 38 = some (.dup, 1, 0, 0, .null) := by decide +kernel
theorem k132_39 : am_cd am_x 132 39 = some (.getfield 94, 3, 8, 12, .null) := by decide +kernel
theorem k132_42 : am_cd am_x 132 42 = some (.iconst 1, 1, 0, 0, .null) := by decide +kernel
theorem k132_43 : am_cd am_x 132 43 = some (.iadd, 1, 0, 0, .null) := by decide +kernel
theorem k132_44 : am_cd am_x 132 44 = some (.putfield 94, 3, 8, 12, .int 0) := by decide +kernel
theorem k132_47 : am_cd am_x 132 47 = some (.aload_n 0, 1, 0, 0, .null) := by decide +kernel
theorem k132_48 : am_cd am_x 132 48 = some (.getfield 94, 3, 8, 12, .null) := by decide +kernel
theorem k132_51 : am_cd am_x 132 51 = some (.ireturn, 1, 0, 0, .null) := by decide +kernel
theorem k133_0 : am_cd am_x 133 0 = some (.iload_n 1, 1, 0, 0, .null) := by decide +kernel
theorem k133_1 : am_cd am_x 133 1 = some (.i2l, 1, 0, 0, .null) := by decide +kernel
theorem k133_2 : am_cd am_x 133 2 = some (.lconst 0, 1, 0, 0, .null) := by decide +kernel
theorem k133_3 : am_cd am_x 133 3 = some (.aload_n 0, 1, 0, 0, .null) := by decide +kernel
theorem k133_4 : am_cd am_x 133 4 = some (.getfield 94, 3, 8, 12, .null) := by decide +kernel
theorem k133_7 : am_cd am_x 133 7 = some (.i2l, 1, 0, 0, .null) := by decide +kernel
theorem k133_8 : am_cd am_x 133 8 = some (.invokestatic 60, 3, 125, 0, .null) := by decide +kernel
theorem k133_11 : am_cd am_x 133 11 = some (.ifCond .ne 5, 3, 16, 0, .null) := by decide +kernel
theorem k133_14 : am_cd am_x 133 14 = some (.iconst (-1), 1, 0, 0, .null) := by decide +kernel
theorem k133_15 : am_cd am_x 133 15 = some (.ireturn, 1, 0, 0, .null) := by decide +kernel
theorem k133_16 : am_cd am_x 133 16 = some (.aload_n 0, 1, 0, 0, .null) := by decide +kernel
theorem k133_17 : am_cd am_x 133 17 = some (.getfield 94, 3, 8, 12, .null) := by decide +kernel
theorem k133_20 : am_cd am_x 133 20 = some (.istore_n 2, 1, 0, 0, .null) := by decide +kernel
theorem k133_21 : am_cd am_x 133 21 = some (.aload_n 0, 1, 0, 0, .null) := by decide +kernel
theorem k133_22 : am_cd am_x 133 22 = some (.iload_n 1, 1, 0, 0, .null) := by decide +kernel
theorem k133_23 : am_cd am_x 133 23 = some (.putfield 94, 3, 8, 12, .int 0) := by decide +kernel
theorem k133_26 : am_cd am_x 133 26 = some (.iload_n 2, 1, 0, 0, .null) := by decide +kernel
theorem k133_27 : am_cd am_x 133 27 = some (.ireturn, 1, 0, 0, .null) := by decide +kernel
theorem k134_0 : am_cd am_x 134 0 = some (.iload_n 1, 1, 0, 0, .null) := by decide +kernel
theorem k134_1 : am_cd am_x 134 1 = some (.ifCond .ne 23, 3, 24, 0, .null) := by decide +kernel
theorem k134_4 : am_cd am_x 134 4 = some (.aload_n 0, 1, 0, 0, .null) := by decide +kernel
theorem k134_5 : am_cd am_x 134 5 = some (.getfield 97, 3, 8, 17, .null) := by decide +kernel
theorem k134_8 : am_cd am_x 134 8 = some (.ifCond .ne 16, 3, 24, 0, .null) := by decide +kernel
theorem k134_11 : am_cd am_x 134 11 = some (.aload_n 0, 1, 0, 0, .null) := by decide +kernel
theorem k134_12 : am_cd am_x 134 12 = some (.iload_n 2, 1, 0, 0, .null) := by decide +kernel
theorem k134_13 : am_cd am_x 134 13 = some (.putfield 97, 3, 8, 17, .int 0) := by decide +kernel
theorem k134_16 : am_cd am_x 134 16 = some (.aload_n 0, 1, 0, 0, .null) := by decide +kernel
theorem k134_17 : am_cd am_x 134 17 = some (.aload_n 0, 1, 0, 0, .null) := by decide +kernel
theorem k134_18 : am_cd am_x 134 18 = some (.getfield 100, 3, 8, 14, .null) := by decide +kernel
theorem k134_21 : am_cd am_x 134 21 = some (.putfield 103, 3, 8, 18, .int 0) := by decide +kernel
theorem k134_24 : am_cd am_x 134 24 = some (.return_, 1, 0, 0, .null) := by decide +kernel
theorem k135_0 : am_cd am_x 135 0 = some (.iload_n 1, 1, 0, 0, .null) := by decide +kernel
theorem k135_1 : am_cd am_x 135 1 = some (.aload_n 0, 1, 0, 0, .null) := by decide +kernel
theorem k135_2 : am_cd am_x 135 2 = some (.getfield 94, 3, 8, 12, .null) := by decide +kernel
theorem k135_5 : am_cd am_x 135 5 = some (.if_icmp .ge 12, 3, 17, 0, .null) := by decide +kernel
theorem k135_8 : am_cd am_x 135 8 = some (.aload_n 0, 1, 0, 0, .null) := by decide +kernel
theorem k135_9 : am_cd am_x 135 9 = some (.getfield 23, 3, 8, 11, .null) := by decide +kernel
theorem k135_12 : am_cd am_x 135 12 = some (.iload_n 1, 1, 0, 0, .null) := by decide +kernel
theorem k135_13 : am_cd am_x 135 13 = some (.iaload, 1, 0, 0, .null) := by decide +kernel
theorem k135_14 : am_cd am_x 135 14 = some (.goto 4, 3, 18, 0, .null) := by decide +kernel
theorem k135_17 : am_cd am_x 135 17 = some (.iconst (-1), 1, 0, 0, .null) := by decide +kernel
theorem k135_18 : am_cd am_x 135 18 = some (.ireturn, 1, 0, 0, .null) := by decide +kernel
theorem k136_0 : am_cd am_x 136 0 = some (.aload_n 0, 1, 0, 0, .null) := by decide +kernel
theorem k136_1 : am_cd am_x 136 1 = some (.getfield 106, 3, 8, 13, .null) := by decide +kernel
theorem k136_4 : am_cd am_x 136 4 = some (.aload_n 0, 1, 0, 0, .null) := by decide +kernel
theorem k136_5 : am_cd am_x 136 5 = some (.getfield 100, 3, 8, 14, .null) := by decide +kernel
theorem k136_8 : am_cd am_x 136 8 = some (.isub, 1, 0, 0, .null) := by decide +kernel
theorem k136_9 : am_cd am_x 136 9 = some (.iload_n 1, 1, 0, 0, .null) := by decide +kernel
theorem k136_10 : am_cd am_x 136 10 = some (.if_icmp .ne 48, 3, 58, 0, .null) := by decide +kernel
theorem k136_13 : am_cd am_x 136 13 = some (.aload_n 0, 1, 0, 0, .null) := by decide +kernel
theorem k136_14 : am_cd am_x 136 14 = some (.aload_n 0, 1, 0, 0, .null) := by decide +kernel
theorem k136_15 : am_cd am_x 136 15 = some (.getfield 100, 3, 8, 14, .null) := by decide +kernel
theorem k136_18 : am_cd am_x 136 18 = some (.invokevirtual 109, 3, 135, 8, .null) := by decide +kernel
theorem k136_21 : am_cd am_x 136 21 = some (.iload_n 2, 1, 0, 0, .null) := by decide +kernel
theorem k136_22 : am_cd am_x 136 22 = some (.if_icmp .ne 36, 3, 58, 0, .null) := by decide +kernel
theorem k136_25 : am_cd am_x 136 25 = some (.aload_n 0, 1, 0, 0, .null) := by decide +kernel
theorem k136_26 : am_cd am_x 136 26 = some (.aload_n 0, 1, 0, 0, .null) := by decide +kernel
theorem k136_27 : am_cd am_x 136 27 = some (.getfield 100, 3, 8, 14, .null) := by decide +kernel
theorem k136_30 : am_cd am_x 136 30 = some (.iconst 1, 1, 0, 0, .null) := by decide +kernel
theorem k136_31 : am_cd am_x 136 31 = some (.iadd, 1, 0, 0, .null) := by decide +kernel
theorem k136_32 : am_cd am_x 136 32 = some (.invokevirtual 109, 3, 135, 8, .null) := by decide +kernel
theorem k136_35 : am_cd am_x 136 35 = some (.iload_n 3, 1, 0, 0, .null) := by decide +kernel
theorem k136_36 : am_cd am_x 136 36 = some (.if_icmp .ne 22, 3, 58, 0, .null) := by decide +kernel
theorem k136_39 : am_cd am_x 136 39 = some (.aload_n 0, 1, 0, 0, .null) := by decide +kernel
theorem k136_40 : am_cd am_x 136 40 = some (.aload_n 0, 1, 0, 0, .null) := by decide +kernel
theorem k136_41 : am_cd am_x 136 41 = some (.getfield 100, 3, 8, 14, .null) := by decide +kernel
theorem k136_44 : am_cd am_x 136 44 = some (.iconst 2, 1, 0, 0, .null) := by decide +kernel
theorem k136_45 : am_cd am_x 136 45 = some (.iadd, 1, 0, 0, .null) := by decide +kernel
theorem k136_46 : am_cd am_x 136 46 = some (.invokevirtual 109, 3, 135, 8, .null) := by decide +kernel
theorem k136_49 : am_cd am_x 136 49 = some (.iload 4, 2, 0, 0, .null) := by decide +kernel
theorem k136_51 : am_cd am_x 136 51 = some (.if_icmp .ne 7, 3, 58, 0, .null) := by decide +kernel
theorem k136_54 : am_cd am_x 136 54 = some (.iconst 1, 1, 0, 0, .null) := by decide +kernel
theorem k136_55 : am_cd am_x 136 55 = some (.goto 4, 3, 59, 0, .null) := by decide +kernel
theorem k136_58 : am_cd am_x 136 58 = some (.iconst 0, 1, 0, 0, .null) := by decide +kernel
theorem k136_59 : am_cd am_x 136 59 = some (.ireturn, 1, 0, 0, .null) := by decide +kernel
theorem k137_0 : am_cd am_x 137 0 = some (.aload_n 0, 1, 0, 0, .null) := by decide +kernel
theorem k137_1 : am_cd am_x 137 1 = some (.aload_n 0, 1, 0, 0, .null) := by decide +kernel
theorem k137_2 : am_cd am_x 137 2 = some (.getfield 100, 3, 8, 14, .null) := by decide +kernel
theorem k137_5 : am_cd am_x 137 5 = some (.iload_n 1, 1, 0, 0, .null) := by decide +kernel
theorem k137_6 : am_cd am_x 137 6 = some (.iadd, 1, 0, 0, .null) := by decide +kernel
theorem k137_7 : am_cd am_x 137 7 = some (.invokevirtual 109, 3, 135, 8, .null) := by decide +kernel
theorem k137_10 : am_cd am_x 137 10 = some (.iload_n 2, 1, 0, 0, .null) := by decide +kernel
theorem k137_11 : am_cd am_x 137 11 = some (.if_icmp .ne 49, 3, 60, 0, .null) := by decide +kernel
theorem k137_14 : am_cd am_x 137 14 = some (.iload_n 3, 1, 0, 0, .null) := by decide +kernel
theorem k137_15 : am_cd am_x 137 15 = some (.ifCond .eq 19, 3, 34, 0, .null) := by decide +kernel
theorem k137_18 : am_cd am_x 137 18 = some (.aload_n 0, 1, 0, 0, .null) := by decide +kernel
theorem k137_19 : am_cd am_x 137 19 = some (.aload_n 0, 1, 0, 0, .null) := by decide +kernel
theorem k137_20 : am_cd am_x 137 20 = some (.getfield 100, 3, 8, 14, .null) := by decide +kernel
theorem k137_23 : am_cd am_x 137 23 = some (.iload_n 1, 1, 0, 0, .null) := by decide +kernel
theorem k137_24 : am_cd am_x 137 24 = some (.iadd, 1, 0, 0, .null) := by decide +kernel
theorem k137_25 : am_cd am_x 137 25 = some (.iconst 1, 1, 0, 0, .null) := by decide +kernel
theorem k137_26 : am_cd am_x 137 26 = some (.iadd, 1, 0, 0, .null) := by decide +kernel
theorem k137_27 : am_cd am_x 137 27 = some (.invokevirtual 109, 3, 135, 8, .null) := by decide +kernel
theorem k137_30 : am_cd am_x 137 30 = some (.iload_n 3, 1, 0, 0, .null) := by decide +kernel
theorem k137_31 : am_cd am_x 137 31 = some (.if_icmp .ne 29, 3, 60, 0, .null) := by decide +kernel
theorem k137_34 : am_cd am_x 137 34 = some (.iload 4, 2, 0, 0, .null) := by decide +kernel
theorem k137_36 : am_cd am_x 137 36 = some (.ifCond .eq 20, 3, 56, 0, .null) := by decide +kernel
theorem k137_39 : am_cd am_x 137 39 = some (.aload_n 0, 1, 0, 0, .null) := by decide +kernel
theorem k137_40 : am_cd am_x 137 40 = some (.aload_n 0, 1, 0, 0, .null) := by decide +kernel
theorem k137_41 : am_cd am_x 137 41 = some (.getfield 100, 3, 8, 14, .null) := by decide +kernel
theorem k137_44 : am_cd am_x 137 44 = some (.iload_n 1, 1, 0, 0, .null) := by decide +kernel
theorem k137_45 : am_cd am_x 137 45 = some (.iadd, 1, 0, 0, .null) := by decide +kernel
theorem k137_46 : am_cd am_x 137 46 = some (.iconst 2, 1, 0, 0, .null) := by decide +kernel
theorem k137_47 : am_cd am_x 137 47 = some (.iadd, 1, 0, 0, .null) := by decide +kernel
theorem k137_48 : am_cd am_x 137 48 = some (.invokevirtual 109, 3, 135, 8, .null) := by decide +kernel
theorem k137_51 : am_cd am_x 137 51 = some (.iload 4, 2, 0, 0, .null) := by decide +kernel
theorem k137_53 : am_cd am_x 137 53 = some (.if_icmp .ne 7, 3, 60, 0, .null) := by decide +kernel
theorem k137_56 : am_cd am_x 137 56 = some (.iconst 1, 1, 0, 0, .null) := by decide +kernel
theorem k137_57 : am_cd am_x 137 57 = some (.goto 4, 3, 61, 0, .null) := by decide +kernel
theorem k137_60 : am_cd am_x 137 60 = some (.iconst 0, 1, 0, 0, .null) := by decide +kernel
theorem k137_61 : am_cd am_x 137 61 = some (.ireturn, 1, 0, 0, .null) := by decide +kernel
