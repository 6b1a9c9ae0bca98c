theorem dX10_init_66 : decode cX10_init 66 = .ok (.iconst (-1), 1) := by decide +kernel
theorem dX10_init_67 : decode cX10_init 67 = .ok (.putfield 32, 3) := by decide +kernel
theorem dX10_init_70 : decode cX10_init 70 = .ok (.aload_n 0, 1) := by decide +kernel
theorem dX10_init_71 : decode cX10_init 71 = .ok (.bipush 11, 2) := by decide +kernel
theorem dX10_init_73 : decode cX10_init 73 = .ok (.newarray .int, 2) := by decide +kernel
theorem dX10_init_75 : decode cX10_init 75 = .ok (.putfield 36, 3) := by decide +kernel
theorem dX10_init_78 : decode cX10_init 78 = .ok (.aload_n 0, 1) := by decide +kernel
theorem dX10_init_79 : decode cX10_init 79 = .ok (.bipush 16, 2) := by decide +kernel
theorem dX10_init_81 : decode cX10_init 81 = .ok (.newarray .int, 2) := by decide +kernel
theorem dX10_init_83 : decode cX10_init 83 = .ok (.putfield 39, 3) := by decide +kernel
theorem dX10_init_86 : decode cX10_init 86 = .ok (.aload_n 0, 1) := by decide +kernel
theorem dX10_init_87 : decode cX10_init 87 = .ok (.bipush 6, 2) := by decide +kernel
theorem dX10_init_89 : decode cX10_init 89 = .ok (.newarray .int, 2) := by decide +kernel
theorem dX10_init_91 : decode cX10_init 91 = .ok (.putfield 42, 3) := by decide +kernel
theorem dX10_init_94 : decode cX10_init 94 = .ok (.aload_n 0, 1) := by decide +kernel
theorem dX10_init_95 : decode cX10_init 95 = .ok (.bipush 6, 2) := by decide +kernel
theorem dX10_init_97 : decode cX10_init 97 = .ok (.newarray .int, 2) := by decide +kernel
theorem dX10_init_99 : decode cX10_init 99 = .ok (.putfield 45, 3) := by decide +kernel
theorem dX10_init_102 : decode cX10_init 102 = .ok (.aload_n 0, 1) := by decide +kernel
theorem dX10_init_103 : decode cX10_init 103 = .ok (.sipush 960, 3) := by decide +kernel
theorem dX10_init_106 : decode cX10_init 106 = .ok (.newarray .int, 2) := by decide +kernel
theorem dX10_init_108 : decode cX10_init 108 = .ok (.putfield 48, 3) := by decide +kernel
theorem dX10_init_111 : decode cX10_init 111 = .ok (.aload_n 0, 1) := by decide +kernel
theorem dX10_init_112 : decode cX10_init 112 = .ok (.bipush 6, 2) := by decide +kernel
theorem dX10_init_114 : decode cX10_init 114 = .ok (.newarray .int, 2) := by decide +kernel
theorem dX10_init_116 : decode cX10_init 116 = .ok (.putfield 51, 3) := by decide +kernel
theorem dX10_init_119 : decode cX10_init 119 = .ok (.aload_n 0, 1) := by decide +kernel
theorem dX10_init_120 : decode cX10_init 120 = .ok (.invokevirtual 54, 3) := by decide +kernel
theorem dX10_init_123 : decode cX10_init 123 = .ok (.aload_n 0, 1) := by decide +kernel
theorem dX10_init_124 : decode cX10_init 124 = .ok (.invokevirtual 57, 3) := by decide +kernel
theorem dX10_init_127 : decode cX10_init 127 = .ok (.return_, 1) := by decide +kernel
theorem dX10_thrown_0 : decode cX10_thrown 0 = .ok (.aload_n 0, 1) := by decide +kernel
theorem dX10_thrown_1 : decode cX10_thrown 1 = .ok (.getfield 60, 3) := by decide +kernel
theorem dX10_thrown_4 : decode cX10_thrown 4 = .ok (.ireturn, 1) := by decide +kernel
theorem dX10_isIn_0 : decode cX10_isIn 0 = .ok (.iload_n 0, 1) := by decide +kernel
theorem dX10_isIn_1 : decode cX10_isIn 1 = .ok (.iload_n 1, 1) := by decide +kernel
theorem dX10_isIn_2 : decode cX10_isIn 2 = .ok (.if_icmp .lt 12, 3) := by decide +kernel
theorem dX10_isIn_5 : decode cX10_isIn 5 = .ok (.iload_n 0, 1) := by decide +kernel
theorem dX10_isIn_6 : decode cX10_isIn 6 = .ok (.iload_n 2, 1) := by decide +kernel
theorem dX10_isIn_7 : decode cX10_isIn 7 = .ok (.if_icmp .gt 7, 3) := by decide +kernel
theorem dX10_isIn_10 : decode cX10_isIn 10 = .ok (.iconst 1, 1) := by decide +kernel
theorem dX10_isIn_11 : decode cX10_isIn 11 = .ok (.goto 4, 3) := by decide +kernel
theorem dX10_isIn_14 : decode cX10_isIn 14 = .ok (.iconst 0, 1) := by decide +kernel
theorem dX10_isIn_15 : decode cX10_isIn 15 = .ok (.ireturn, 1) := by decide +kernel
theorem dX10_may_0 : decode cX10_may 0 = .ok (.iload_n 1, 1) := by decide +kernel
theorem dX10_may_1 : decode cX10_may 1 = .ok (.ifCond .ne 15, 3) := by decide +kernel
theorem dX10_may_4 : decode cX10_may 4 = .ok (.aload_n 0, 1) := by decide +kernel
theorem dX10_may_5 : decode cX10_may 5 = .ok (.getfield 60, 3) := by decide +kernel
theorem dX10_may_8 : decode cX10_may 8 = .ok (.ifCond .ne 8, 3) := by decide +kernel
theorem dX10_may_11 : decode cX10_may 11 = .ok (.aload_n 0, 1) := by decide +kernel
theorem dX10_may_12 : decode cX10_may 12 = .ok (.iload_n 2, 1) := by decide +kernel
theorem dX10_may_13 : decode cX10_may 13 = .ok (.putfield 60, 3) := by decide +kernel
theorem dX10_may_16 : decode cX10_may 16 = .ok (.aload_n 0, 1) := by decide +kernel
theorem dX10_may_17 : decode cX10_may 17 = .ok (.getfield 60, 3) := by decide +kernel
theorem dX10_may_20 : decode cX10_may 20 = .ok (.ifCond .ne 7, 3) := by decide +kernel
theorem dX10_may_23 : decode cX10_may 23 = .ok (.iconst 1, 1) := by decide +kernel
theorem dX10_may_24 : decode cX10_may 24 = .ok (.goto 4, 3) := by decide +kernel
theorem dX10_may_27 : decode cX10_may 27 = .ok (.iconst 0, 1) := by decide +kernel
theorem dX10_may_28 : decode cX10_may 28 = .ok (.ireturn, 1) := by decide +kernel
theorem dX10_has_0 : decode cX10_has 0 = .ok (.iload_n 0, 1) := by decide +kernel
theorem dX10_has_1 : decode cX10_has 1 = .ok (.iload_n 1, 1) := by decide +kernel
theorem dX10_has_2 : decode cX10_has 2 = .ok (.ishr, 1) := by decide +kernel
theorem dX10_has_3 : decode cX10_has 3 = .ok (.iconst 1, 1) := by decide +kernel
theorem dX10_has_4 : decode cX10_has 4 = .ok (.iand, 1) := by decide +kernel
theorem dX10_has_5 : decode cX10_has 5 = .ok (.iconst 1, 1) := by decide +kernel
theorem dX10_has_6 : decode cX10_has 6 = .ok (.if_icmp .ne 7, 3) := by decide +kernel
theorem dX10_has_9 : decode cX10_has 9 = .ok (.iconst 1, 1) := by decide +kernel
theorem dX10_has_10 : decode cX10_has 10 = .ok (.goto 4, 3) := by decide +kernel
theorem dX10_has_13 : decode cX10_has 13 = .ok (.iconst 0, 1) := by decide +kernel
theorem dX10_has_14 : decode cX10_has 14 = .ok (.ireturn, 1) := by decide +kernel
theorem dX10_plain_0 : decode cX10_plain 0 = .ok (.iconst 0, 1) := by decide +kernel
theorem dX10_plain_1 : decode cX10_plain 1 = .ok (.istore_n 1, 1) := by decide +kernel
theorem dX10_plain_2 : decode cX10_plain 2 = .ok (.iload_n 1, 1) := by decide +kernel
theorem dX10_plain_3 : decode cX10_plain 3 = .ok (.sipush 290, 3) := by decide +kernel
theorem dX10_plain_6 : decode cX10_plain 6 = .ok (.if_icmp .ge 16, 3) := by decide +kernel
theorem dX10_plain_9 : decode cX10_plain 9 = .ok (.aload_n 0, 1) := by decide +kernel
theorem dX10_plain_10 : decode cX10_plain 10 = .ok (.getfield 26, 3) := by decide +kernel
theorem dX10_plain_13 : decode cX10_plain 13 = .ok (.iload_n 1, 1) := by decide +kernel
theorem dX10_plain_14 : decode cX10_plain 14 = .ok (.iconst 0, 1) := by decide +kernel
theorem dX10_plain_15 : decode cX10_plain 15 = .ok (.iastore, 1) := by decide +kernel
theorem dX10_plain_16 : decode cX10_plain 16 = .ok (.iinc 1 1, 3) := by decide +kernel
theorem dX10_plain_19 : decode cX10_plain 19 = .ok (.goto (-17), 3) := by decide +kernel
theorem dX10_plain_22 : decode cX10_plain 22 = .ok (.aload_n 0, 1) := by decide +kernel
theorem dX10_plain_23 : decode cX10_plain 23 = .ok (.getfield 26, 3) := by decide +kernel
theorem dX10_plain_26 : decode cX10_plain 26 = .ok (.iconst 0, 1) := by decide +kernel
theorem dX10_plain_27 : decode cX10_plain 27 = .ok (.iconst 1, 1) := by decide +kernel
theorem dX10_plain_28 : decode cX10_plain 28 = .ok (.iastore, 1) := by decide +kernel
theorem dX10_plain_29 : decode cX10_plain 29 = .ok (.aload_n 0, 1) := by decide +kernel
theorem dX10_plain_30 : decode cX10_plain 30 = .ok (.getfield 26, 3) := by decide +kernel
theorem dX10_plain_33 : decode cX10_plain 33 = .ok (.iconst 1, 1) := by decide +kernel
theorem dX10_plain_34 : decode cX10_plain 34 = .ok (.iconst 1, 1) := by decide +kernel
theorem dX10_plain_35 : decode cX10_plain 35 = .ok (.iastore, 1) := by decide +kernel
theorem dX10_plain_36 : decode cX10_plain 36 = .ok (.aload_n 0, 1) := by decide +kernel
theorem dX10_plain_37 : decode cX10_plain 37 = .ok (.getfield 26, 3) := by decide +kernel
theorem dX10_plain_40 : decode cX10_plain 40 = .ok (.iconst 2, 1) := by decide +kernel
theorem dX10_plain_41 : decode cX10_plain 41 = .ok (.iconst 1, 1) := by decide +kernel
theorem dX10_plain_42 : decode cX10_plain 42 = .ok (.iastore, 1) := by decide +kernel
theorem dX10_plain_43 : decode cX10_plain 43 = .ok (.aload_n 0, 1) := by decide +kernel
theorem dX10_plain_44 : decode cX10_plain 44 = .ok (.getfield 26, 3) := by decide +kernel
theorem dX10_plain_47 : decode cX10_plain 47 = .ok (.iconst 3, 1) := by decide +kernel
theorem dX10_plain_48 : decode cX10_plain 48 = .ok (.bipush 10, 2) := by decide +kernel
theorem dX10_plain_50 : decode cX10_plain 50 = .ok (.iastore, 1) := by decide +kernel
theorem dX10_plain_51 : decode cX10_plain 51 = .ok (.aload_n 0, 1) := by decide +kernel
theorem dX10_plain_52 : decode cX10_plain 52 = .ok (.getfield 26, 3) := by decide +kernel
theorem dX10_plain_55 : decode cX10_plain 55 = .ok (.iconst 4, 1) := by decide +kernel
theorem dX10_plain_56 : decode cX10_plain 56 = .ok (.iconst 4, 1) := by decide +kernel
theorem dX10_plain_57 : decode cX10_plain 57 = .ok (.iastore, 1) := by decide +kernel
theorem dX10_plain_58 : decode cX10_plain 58 = .ok (.aload_n 0, 1) := by decide +kernel
theorem dX10_plain_59 : decode cX10_plain 59 = .ok (.getfield 26, 3) := by decide +kernel
theorem dX10_plain_62 : decode cX10_plain 62 = .ok (.iconst 5, 1) := by decide +kernel
theorem dX10_plain_63 : decode cX10_plain 63 = .ok (.iconst 2, 1) := by decide +kernel
theorem dX10_plain_64 : decode cX10_plain 64 = .ok (.iastore, 1) := by decide +kernel
theorem dX10_plain_65 : decode cX10_plain 65 = .ok (.aload_n 0, 1) := by decide +kernel
theorem dX10_plain_66 : decode cX10_plain 66 = .ok (.getfield 26, 3) := by decide +kernel
theorem dX10_plain_69 : decode cX10_plain 69 = .ok (.bipush 6, 2) := by decide +kernel
theorem dX10_plain_71 : decode cX10_plain 71 = .ok (.iconst 5, 1) := by decide +kernel
theorem dX10_plain_72 : decode cX10_plain 72 = .ok (.iastore, 1) := by decide +kernel
theorem dX10_plain_73 : decode cX10_plain 73 = .ok (.aload_n 0, 1) := by decide +kernel
theorem dX10_plain_74 : decode cX10_plain 74 = .ok (.getfield 26, 3) := by decide +kernel
theorem dX10_plain_77 : decode cX10_plain 77 = .ok (.bipush 7, 2) := by decide +kernel
theorem dX10_plain_79 : decode cX10_plain 79 = .ok (.iconst 3, 1) := by decide +kernel
theorem dX10_plain_80 : decode cX10_plain 80 = .ok (.iastore, 1) := by decide +kernel
theorem dX10_plain_81 : decode cX10_plain 81 = .ok (.aload_n 0, 1) := by decide +kernel
theorem dX10_plain_82 : decode cX10_plain 82 = .ok (.getfield 26, 3) := by decide +kernel
theorem dX10_plain_85 : decode cX10_plain 85 = .ok (.bipush 8, 2) := by decide +kernel
theorem dX10_plain_87 : decode cX10_plain 87 = .ok (.bipush 6, 2) := by decide +kernel
theorem dX10_plain_89 : decode cX10_plain 89 = .ok (.iastore, 1) := by decide +kernel
theorem dX10_plain_90 : decode cX10_plain 90 = .ok (.aload_n 0, 1) := by decide +kernel
theorem dX10_plain_91 : decode cX10_plain 91 = .ok (.getfield 26, 3) := by decide +kernel
theorem dX10_plain_94 : decode cX10_plain 94 = .ok (.bipush 9, 2) := by decide +kernel
theorem dX10_plain_96 : decode cX10_plain 96 = .ok (.iconst 4, 1) := by decide +kernel
theorem dX10_plain_97 : decode cX10_plain 97 = .ok (.iastore, 1) := by decide +kernel
theorem dX10_plain_98 : decode cX10_plain 98 = .ok (.aload_n 0, 1) := by decide +kernel
theorem dX10_plain_99 : decode cX10_plain 99 = .ok (.getfield 26, 3) := by decide +kernel
theorem dX10_plain_102 : decode cX10_plain 102 = .ok (.bipush 10, 2) := by decide +kernel
theorem dX10_plain_104 : decode cX10_plain 104 = .ok (.bipush 50, 2) := by decide +kernel
theorem dX10_plain_106 : decode cX10_plain 106 = .ok (.iastore, 1) := by decide +kernel
theorem dX10_plain_107 : decode cX10_plain 107 = .ok (.aload_n 0, 1) := by decide +kernel
theorem dX10_plain_108 : decode cX10_plain 108 = .ok (.getfield 26, 3) := by decide +kernel
theorem dX10_plain_111 : decode cX10_plain 111 = .ok (.bipush 11, 2) := by decide +kernel
theorem dX10_plain_113 : decode cX10_plain 113 = .ok (.iconst 4, 1) := by decide +kernel
theorem dX10_plain_114 : decode cX10_plain 114 = .ok (.iastore, 1) := by decide +kernel
theorem dX10_plain_115 : decode cX10_plain 115 = .ok (.return_, 1) := by decide +kernel
theorem dX10_takes_0 : decode cX10_takes 0 = .ok (.iconst 0, 1) := by decide +kernel
theorem dX10_takes_1 : decode cX10_takes 1 = .ok (.istore_n 1, 1) := by decide +kernel
theorem dX10_takes_2 : decode cX10_takes 2 = .ok (.iload_n 1, 1) := by decide +kernel
theorem dX10_takes_3 : decode cX10_takes 3 = .ok (.sipush 290, 3) := by decide +kernel
theorem dX10_takes_6 : decode cX10_takes 6 = .ok (.if_icmp .ge 21, 3) := by decide +kernel
theorem dX10_takes_9 : decode cX10_takes 9 = .ok (.aload_n 0, 1) := by decide +kernel
theorem dX10_takes_10 : decode cX10_takes 10 = .ok (.getfield 23, 3) := by decide +kernel
theorem dX10_takes_13 : decode cX10_takes 13 = .ok (.iload_n 1, 1) := by decide +kernel
theorem dX10_takes_14 : decode cX10_takes 14 = .ok (.aload_n 0, 1) := by decide +kernel
theorem dX10_takes_15 : decode cX10_takes 15 = .ok (.getfield 26, 3) := by decide +kernel
theorem dX10_takes_18 : decode cX10_takes 18 = .ok (.iload_n 1, 1) := by decide +kernel
theorem dX10_takes_19 : decode cX10_takes 19 = .ok (.iaload, 1) := by decide +kernel
theorem dX10_takes_20 : decode cX10_takes 20 = .ok (.iastore, 1) := by decide +kernel
theorem dX10_takes_21 : decode cX10_takes 21 = .ok (.iinc 1 1, 3) := by decide +kernel
theorem dX10_takes_24 : decode cX10_takes 24 = .ok (.goto (-22), 3) := by decide +kernel
theorem dX10_takes_27 : decode cX10_takes 27 = .ok (.iconst 0, 1) := by decide +kernel
theorem dX10_takes_28 : decode cX10_takes 28 = .ok (.istore_n 1, 1) := by decide +kernel
theorem dX10_takes_29 : decode cX10_takes 29 = .ok (.iload_n 1, 1) := by decide +kernel
theorem dX10_takes_30 : decode cX10_takes 30 = .ok (.sipush 1671, 3) := by decide +kernel
theorem dX10_takes_33 : decode cX10_takes 33 = .ok (.if_icmp .ge 16, 3) := by decide +kernel
theorem dX10_takes_36 : decode cX10_takes 36 = .ok (.aload_n 0, 1) := by decide +kernel
theorem dX10_takes_37 : decode cX10_takes 37 = .ok (.getfield 9, 3) := by decide +kernel
theorem dX10_takes_40 : decode cX10_takes 40 = .ok (.iload_n 1, 1) := by decide +kernel
theorem dX10_takes_41 : decode cX10_takes 41 = .ok (.iconst 0, 1) := by decide +kernel
theorem dX10_takes_42 : decode cX10_takes 42 = .ok (.iastore, 1) := by decide +kernel
theorem dX10_takes_43 : decode cX10_takes 43 = .ok (.iinc 1 1, 3) := by decide +kernel
theorem dX10_takes_46 : decode cX10_takes 46 = .ok (.goto (-17), 3) := by decide +kernel
theorem dX10_takes_49 : decode cX10_takes 49 = .ok (.aload_n 0, 1) := by decide +kernel
theorem dX10_takes_50 : decode cX10_takes 50 = .ok (.getfield 19, 3) := by decide +kernel
theorem dX10_takes_53 : decode cX10_takes 53 = .ok (.iconst 0, 1) := by decide +kernel
theorem dX10_takes_54 : decode cX10_takes 54 = .ok (.iconst 0, 1) := by decide +kernel
theorem dX10_takes_55 : decode cX10_takes 55 = .ok (.bastore, 1) := by decide +kernel
theorem dX10_takes_56 : decode cX10_takes 56 = .ok (.aload_n 0, 1) := by decide +kernel
theorem dX10_takes_57 : decode cX10_takes 57 = .ok (.getfield 19, 3) := by decide +kernel
theorem dX10_takes_60 : decode cX10_takes 60 = .ok (.iconst 1, 1) := by decide +kernel
theorem dX10_takes_61 : decode cX10_takes 61 = .ok (.iconst 0, 1) := by decide +kernel
theorem dX10_takes_62 : decode cX10_takes 62 = .ok (.bastore, 1) := by decide +kernel
theorem dX10_takes_63 : decode cX10_takes 63 = .ok (.return_, 1) := by decide +kernel
theorem dX10_append_0 : decode cX10_append 0 = .ok (.aload_n 0, 1) := by decide +kernel
theorem dX10_append_1 : decode cX10_append 1 = .ok (.iconst 0, 1) := by decide +kernel
theorem dX10_append_2 : decode cX10_append 2 = .ok (.putfield 60, 3) := by decide +kernel
theorem dX10_append_5 : decode cX10_append 5 = .ok (.aload_n 0, 1) := by decide +kernel
theorem dX10_append_6 : decode cX10_append 6 = .ok (.aload_n 0, 1) := by decide +kernel
theorem dX10_append_7 : decode cX10_append 7 = .ok (.getfield 63, 3) := by decide +kernel
theorem dX10_append_10 : decode cX10_append 10 = .ok (.bipush 20, 2) := by decide +kernel
theorem dX10_append_12 : decode cX10_append 12 = .ok (.iadd, 1) := by decide +kernel
theorem dX10_append_13 : decode cX10_append 13 = .ok (.sipush 900, 3) := by decide +kernel
theorem dX10_append_16 : decode cX10_append 16 = .ok (.if_icmp .gt 7, 3) := by decide +kernel
theorem dX10_append_19 : decode cX10_append 19 = .ok (.iconst 1, 1) := by decide +kernel
theorem dX10_append_20 : decode cX10_append 20 = .ok (.goto 4, 3) := by decide +kernel
theorem dX10_append_23 : decode cX10_append 23 = .ok (.iconst 0, 1) := by decide +kernel
theorem dX10_append_24 : decode cX10_append 24 = .ok (.iconst 1, 1) := by decide +kernel
theorem dX10_append_25 : decode cX10_append 25 = .ok (.invokevirtual 66, 3) := by decide +kernel
theorem dX10_append_28 : decode cX10_append 28 = .ok (.ifCond .ne 5, 3) := by decide +kernel
theorem dX10_append_31 : decode cX10_append 31 = .ok (.iconst 0, 1) := by decide +kernel
theorem dX10_append_32 : decode cX10_append 32 = .ok (.ireturn, 1) := by decide +kernel
theorem dX10_append_33 : decode cX10_append 33 = .ok (.iconst 0, 1) := by decide +kernel
theorem dX10_append_34 : decode cX10_append 34 = .ok (.istore 6, 2) := by decide +kernel
theorem dX10_append_36 : decode cX10_append 36 = .ok (.iload 6, 2) := by decide +kernel
theorem dX10_append_38 : decode cX10_append 38 = .ok (.bipush 20, 2) := by decide +kernel
theorem dX10_append_40 : decode cX10_append 40 = .ok (.if_icmp .ge 86, 3) := by decide +kernel
theorem dX10_append_43 : decode cX10_append 43 = .ok (.iload 6, 2) := by decide +kernel
theorem dX10_append_45 : decode cX10_append 45 = .ok (.iconst 4, 1) := by decide +kernel
theorem dX10_append_46 : decode cX10_append 46 = .ok (.if_icmp .ge 7, 3) := by decide +kernel
theorem dX10_append_49 : decode cX10_append 49 = .ok (.iload_n 1, 1) := by decide +kernel
theorem dX10_append_50 : decode cX10_append 50 = .ok (.goto 39, 3) := by decide +kernel
theorem dX10_append_53 : decode cX10_append 53 = .ok (.iload 6, 2) := by decide +kernel
theorem dX10_append_55 : decode cX10_append 55 = .ok (.bipush 8, 2) := by decide +kernel
theorem dX10_append_57 : decode cX10_append 57 = .ok (.if_icmp .ge 7, 3) := by decide +kernel
theorem dX10_append_60 : decode cX10_append 60 = .ok (.iload_n 2, 1) := by decide +kernel
theorem dX10_append_61 : decode cX10_append 61 = .ok (.goto 28, 3) := by decide +kernel
theorem dX10_append_64 : decode cX10_append 64 = .ok (.iload 6, 2) := by decide +kernel
theorem dX10_append_66 : decode cX10_append 66 = .ok (.bipush 12, 2) := by decide +kernel
theorem dX10_append_68 : decode cX10_append 68 = .ok (.if_icmp .ge 7, 3) := by decide +kernel
theorem dX10_append_71 : decode cX10_append 71 = .ok (.iload_n 3, 1) := by decide +kernel
theorem dX10_append_72 : decode cX10_append 72 = .ok (.goto 17, 3) := by decide +kernel
theorem dX10_append_75 : decode cX10_append 75 = .ok (.iload 6, 2) := by decide +kernel
theorem dX10_append_77 : decode cX10_append 77 = .ok (.bipush 16, 2) := by decide +kernel
theorem dX10_append_79 : decode cX10_append 79 = .ok (.if_icmp .ge 8, 3) := by decide +kernel
theorem dX10_append_82 : decode cX10_append 82 = .ok (.iload 4, 2) := by decide +kernel
theorem dX10_append_84 : decode cX10_append 84 = .ok (.goto 5, 3) := by decide +kernel
theorem dX10_append_87 : decode cX10_append 87 = .ok (.iload 5, 2) := by decide +kernel
theorem dX10_append_89 : decode cX10_append 89 = .ok (.istore 7, 2) := by decide +kernel
theorem dX10_append_91 : decode cX10_append 91 = .ok (.aload_n 0, 1) := by decide +kernel
theorem dX10_append_92 : decode cX10_append 92 = .ok (.getfield 29, 3) := by decide +kernel
theorem dX10_append_95 : decode cX10_append 95 = .ok (.aload_n 0, 1) := by decide +kernel
theorem dX10_append_96 : decode cX10_append 96 = .ok (.getfield 63, 3) := by decide +kernel
theorem dX10_append_99 : decode cX10_append 99 = .ok (.iload 6, 2) := by decide +kernel
theorem dX10_append_101 : decode cX10_append 101 = .ok (.iadd, 1) := by decide +kernel
theorem dX10_append_102 : decode cX10_append 102 = .ok (.iload 7, 2) := by decide +kernel
theorem dX10_append_104 : decode cX10_append 104 = .ok (.bipush 24, 2) := by decide +kernel
theorem dX10_append_106 : decode cX10_append 106 = .ok (.bipush 8, 2) := by decide +kernel
theorem dX10_append_108 : decode cX10_append 108 = .ok (.iload 6, 2) := by decide +kernel
theorem dX10_append_110 : decode cX10_append 110 = .ok (.iconst 4, 1) := by decide +kernel
theorem dX10_append_111 : decode cX10_append 111 = .ok (.irem, 1) := by decide +kernel
theorem dX10_append_112 : decode cX10_append 112 = .ok (.imul, 1) := by decide +kernel
theorem dX10_append_113 : decode cX10_append 113 = .ok (.isub, 1) := by decide +kernel
theorem dX10_append_114 : decode cX10_append 114 = .ok (.ishr, 1) := by decide +kernel
theorem dX10_append_115 : decode cX10_append 115 = .ok (.sipush 255, 3) := by decide +kernel
theorem dX10_append_118 : decode cX10_append 118 = .ok (.iand, 1) := by decide +kernel
theorem dX10_append_119 : decode cX10_append 119 = .ok (.iastore, 1) := by decide +kernel
theorem dX10_append_120 : decode cX10_append 120 = .ok (.iinc 6 1, 3) := by decide +kernel
theorem dX10_append_123 : decode cX10_append 123 = .ok (.goto (-87), 3) := by decide +kernel
theorem dX10_append_126 : decode cX10_append 126 = .ok (.aload_n 0, 1) := by decide +kernel
theorem dX10_append_127 : decode cX10_append 127 = .ok (.dup, 1) := by decide +kernel
theorem dX10_append_128 : decode cX10_append 128 = .ok (.getfield 63, 3) := by decide +kernel
theorem dX10_append_131 : decode cX10_append 131 = .ok (.bipush 20, 2) := by decide +kernel
theorem dX10_append_133 : decode cX10_append 133 = .ok (.iadd, 1) := by decide +kernel
theorem dX10_append_134 : decode cX10_append 134 = .ok (.putfield 63, 3) := by decide +kernel
theorem dX10_append_137 : decode cX10_append 137 = .ok (.aload_n 0, 1) := by decide +kernel
theorem dX10_append_138 : decode cX10_append 138 = .ok (.getfield 63, 3) := by decide +kernel
theorem dX10_append_141 : decode cX10_append 141 = .ok (.ireturn, 1) := by decide +kernel
theorem dX10_truncate_0 : decode cX10_truncate 0 = .ok (.aload_n 0, 1) := by decide +kernel
theorem dX10_truncate_1 : decode cX10_truncate 1 = .ok (.iconst 0, 1) := by decide +kernel
theorem dX10_truncate_2 : decode cX10_truncate 2 = .ok (.putfield 60, 3) := by decide +kernel
theorem dX10_truncate_5 : decode cX10_truncate 5 = .ok (.aload_n 0, 1) := by decide +kernel
theorem dX10_truncate_6 : decode cX10_truncate 6 = .ok (.iload_n 1, 1) := by decide +kernel
theorem dX10_truncate_7 : decode cX10_truncate 7 = .ok (.iconst 0, 1) := by decide +kernel
theorem dX10_truncate_8 : decode cX10_truncate 8 = .ok (.aload_n 0, 1) := by decide +kernel
theorem dX10_truncate_9 : decode cX10_truncate 9 = .ok (.getfield 63, 3) := by decide +kernel
theorem dX10_truncate_12 : decode cX10_truncate 12 = .ok (.invokestatic 70, 3) := by decide +kernel
theorem dX10_truncate_15 : decode cX10_truncate 15 = .ok (.iconst 1, 1) := by decide +kernel
theorem dX10_truncate_16 : decode cX10_truncate 16 = .ok (.invokevirtual 66, 3) := by decide +kernel
theorem dX10_truncate_19 : decode cX10_truncate 19 = .ok (.ifCond .ne 5, 3) := by decide +kernel
theorem dX10_truncate_22 : decode cX10_truncate 22 = .ok (.iconst 0, 1) := by decide +kernel
theorem dX10_truncate_23 : decode cX10_truncate 23 = .ok (.ireturn, 1) := by decide +kernel
theorem dX10_truncate_24 : decode cX10_truncate 24 = .ok (.aload_n 0, 1) := by decide +kernel
theorem dX10_truncate_25 : decode cX10_truncate 25 = .ok (.iload_n 1, 1) := by decide +kernel
theorem dX10_truncate_26 : decode cX10_truncate 26 = .ok (.putfield 63, 3) := by decide +kernel
theorem dX10_truncate_29 : decode cX10_truncate 29 = .ok (.iload_n 1, 1) := by decide +kernel
theorem dX10_truncate_30 : decode cX10_truncate 30 = .ok (.ireturn, 1) := by decide +kernel
theorem dX10_at_0 : decode cX10_at 0 = .ok (.iload_n 1, 1) := by decide +kernel
theorem dX10_at_1 : decode cX10_at 1 = .ok (.aload_n 0, 1) := by decide +kernel
theorem dX10_at_2 : decode cX10_at 2 = .ok (.getfield 74, 3) := by decide +kernel
theorem dX10_at_5 : decode cX10_at 5 = .ok (.if_icmp .ge 12, 3) := by decide +kernel
theorem dX10_at_8 : decode cX10_at 8 = .ok (.aload_n 0, 1) := by decide +kernel
theorem dX10_at_9 : decode cX10_at 9 = .ok (.getfield 29, 3) := by decide +kernel
theorem dX10_at_12 : decode cX10_at 12 = .ok (.iload_n 1, 1) := by decide +kernel
theorem dX10_at_13 : decode cX10_at 13 = .ok (.iaload, 1) := by decide +kernel
theorem dX10_at_14 : decode cX10_at 14 = .ok (.goto 4, 3) := by decide +kernel
theorem dX10_at_17 : decode cX10_at 17 = .ok (.iconst (-1), 1) := by decide +kernel
theorem dX10_at_18 : decode cX10_at 18 = .ok (.ireturn, 1) := by decide +kernel
theorem dX10_isLetter_0 : decode cX10_isLetter 0 = .ok (.iload_n 0, 1) := by decide +kernel
theorem dX10_isLetter_1 : decode cX10_isLetter 1 = .ok (.bipush 97, 2) := by decide +kernel
theorem dX10_isLetter_3 : decode cX10_isLetter 3 = .ok (.if_icmp .lt 13, 3) := by decide +kernel
theorem dX10_isLetter_6 : decode cX10_isLetter 6 = .ok (.iload_n 0, 1) := by decide +kernel
theorem dX10_isLetter_7 : decode cX10_isLetter 7 = .ok (.bipush 122, 2) := by decide +kernel
theorem dX10_isLetter_9 : decode cX10_isLetter 9 = .ok (.if_icmp .gt 7, 3) := by decide +kernel
theorem dX10_isLetter_12 : decode cX10_isLetter 12 = .ok (.iconst 1, 1) := by decide +kernel
theorem dX10_isLetter_13 : decode cX10_isLetter 13 = .ok (.goto 4, 3) := by decide +kernel
theorem dX10_isLetter_16 : decode cX10_isLetter 16 = .ok (.iconst 0, 1) := by decide +kernel
theorem dX10_isLetter_17 : decode cX10_isLetter 17 = .ok (.ireturn, 1) := by decide +kernel
theorem dX10_isDigit_0 : decode cX10_isDigit 0 = .ok (.iload_n 0, 1) := by decide +kernel
theorem dX10_isDigit_1 : decode cX10_isDigit 1 = .ok (.bipush 48, 2) := by decide +kernel
theorem dX10_isDigit_3 : decode cX10_isDigit 3 = .ok (.if_icmp .lt 13, 3) := by decide +kernel
theorem dX10_isDigit_6 : decode cX10_isDigit 6 = .ok (.iload_n 0, 1) := by decide +kernel
theorem dX10_isDigit_7 : decode cX10_isDigit 7 = .ok (.bipush 57, 2) := by decide +kernel
theorem dX10_isDigit_9 : decode cX10_isDigit 9 = .ok (.if_icmp .gt 7, 3) := by decide +kernel
theorem dX10_isDigit_12 : decode cX10_isDigit 12 = .ok (.iconst 1, 1) := by decide +kernel
theorem dX10_isDigit_13 : decode cX10_isDigit 13 = .ok (.goto 4, 3) := by decide +kernel
theorem dX10_isDigit_16 : decode cX10_isDigit 16 = .ok (.iconst 0, 1) := by decide +kernel
theorem dX10_isDigit_17 : decode cX10_isDigit 17 = .ok (.ireturn, 1) := by decide +kernel
theorem dX10_token_0 : decode cX10_token 0 = .ok (.aload_n 0, 1) := by decide +kernel
theorem dX10_token_1 : decode cX10_token 1 = .ok (.aload_n 0, 1) := by decide +kernel
theorem dX10_token_2 : decode cX10_token 2 = .ok (.getfield 77, 3) := by decide +kernel
theorem dX10_token_5 : decode cX10_token 5 = .ok (.invokevirtual 80, 3) := by decide +kernel
theorem dX10_token_8 : decode cX10_token 8 = .ok (.bipush 10, 2) := by decide +kernel
theorem dX10_token_10 : decode cX10_token 10 = .ok (.if_icmp .eq 16, 3) := by decide +kernel
theorem dX10_token_13 : decode cX10_token 13 = .ok (.aload_n 0, 1) := by decide +kernel
theorem dX10_token_14 : decode cX10_token 14 = .ok (.aload_n 0, 1) := by decide +kernel
theorem dX10_token_15 : decode cX10_token 15 = .ok (.getfield 77, 3) := by decide +kernel
theorem dX10_token_18 : decode cX10_token 18 = .ok (.invokevirtual 80, 3) := by decide +kernel
theorem dX10_token_21 : decode cX10_token 21 = .ok (.bipush 32, 2) := by decide +kernel
theorem dX10_token_23 : decode cX10_token 23 = .ok (.if_icmp .ne 16, 3) := by decide +kernel
theorem dX10_token_26 : decode cX10_token 26 = .ok (.aload_n 0, 1) := by decide +kernel
theorem dX10_token_27 : decode cX10_token 27 = .ok (.dup, 1) := by decide +kernel
theorem dX10_token_28 : decode cX10_token 28 = .ok (.getfield 77, 3) := by decide +kernel
theorem dX10_token_31 : decode cX10_token 31 = .ok (.iconst 1, 1) := by decide +kernel
theorem dX10_token_32 : decode cX10_token 32 = .ok (.iadd, 1) := by decide +kernel
theorem dX10_token_33 : decode cX10_token 33 = .ok (.putfield 77, 3) := by decide +kernel
theorem dX10_token_36 : decode cX10_token 36 = .ok (.goto (-36), 3) := by decide +kernel
theorem dX10_token_39 : decode cX10_token 39 = .ok (.aload_n 0, 1) := by decide +kernel
theorem dX10_token_40 : decode cX10_token 40 = .ok (.aload_n 0, 1) := by decide +kernel
theorem dX10_token_41 : decode cX10_token 41 = .ok (.getfield 77, 3) := by decide +kernel
theorem dX10_token_44 : decode cX10_token 44 = .ok (.putfield 84, 3) := by decide +kernel
theorem dX10_token_47 : decode cX10_token 47 = .ok (.aload_n 0, 1) := by decide +kernel
theorem dX10_token_48 : decode cX10_token 48 = .ok (.aload_n 0, 1) := by decide +kernel
theorem dX10_token_49 : decode cX10_token 49 = .ok (.getfield 77, 3) := by decide +kernel
theorem dX10_token_52 : decode cX10_token 52 = .ok (.invokevirtual 80, 3) := by decide +kernel
theorem dX10_token_55 : decode cX10_token 55 = .ok (.istore_n 1, 1) := by decide +kernel
theorem dX10_token_56 : decode cX10_token 56 = .ok (.iload_n 1, 1) := by decide +kernel
theorem dX10_token_57 : decode cX10_token 57 = .ok (.iconst (-1), 1) := by decide +kernel
theorem dX10_token_58 : decode cX10_token 58 = .ok (.if_icmp .ne 11, 3) := by decide +kernel
theorem dX10_token_61 : decode cX10_token 61 = .ok (.aload_n 0, 1) := by decide +kernel
theorem dX10_token_62 : decode cX10_token 62 = .ok (.iconst 0, 1) := by decide +kernel
theorem dX10_token_63 : decode cX10_token 63 = .ok (.putfield 87, 3) := by decide +kernel
theorem dX10_token_66 : decode cX10_token 66 = .ok (.goto 189, 3) := by decide +kernel
theorem dX10_token_69 : decode cX10_token 69 = .ok (.iload_n 1, 1) := by decide +kernel
theorem dX10_token_70 : decode cX10_token 70 = .ok (.invokestatic 90, 3) := by decide +kernel
theorem dX10_token_73 : decode cX10_token 73 = .ok (.ifCond .eq 38, 3) := by decide +kernel
theorem dX10_token_76 : decode cX10_token 76 = .ok (.aload_n 0, 1) := by decide +kernel
theorem dX10_token_77 : decode cX10_token 77 = .ok (.aload_n 0, 1) := by decide +kernel
theorem dX10_token_78 : decode cX10_token 78 = .ok (.getfield 77, 3) := by decide +kernel
theorem dX10_token_81 : decode cX10_token 81 = .ok (.invokevirtual 80, 3) := by decide +kernel
theorem dX10_token_84 : decode cX10_token 84 = .ok (.invokestatic 90, 3) := by decide +kernel
theorem dX10_token_87 : decode cX10_token 87 = .ok (.ifCond .eq 16, 3) := by decide +kernel
theorem dX10_token_90 : decode cX10_token 90 = .ok (.aload_n 0, 1) := by decide +kernel
theorem dX10_token_91 : decode cX10_token 91 = .ok (.dup, 1) := by decide +kernel
theorem dX10_token_92 : decode cX10_token 92 = .ok (.getfield 77, 3) := by decide +kernel
theorem dX10_token_95 : decode cX10_token 95 = .ok (.iconst 1, 1) := by decide +kernel
theorem dX10_token_96 : decode cX10_token 96 = .ok (.iadd, 1) := by decide +kernel
theorem dX10_token_97 : decode cX10_token 97 = .ok (.putfield 77, 3) := by decide +kernel
theorem dX10_token_100 : decode cX10_token 100 = .ok (.goto (-24), 3) := by decide +kernel
theorem dX10_token_103 : decode cX10_token 103 = .ok (.aload_n 0, 1) := by decide +kernel
theorem dX10_token_104 : decode cX10_token 104 = .ok (.iconst 1, 1) := by decide +kernel
theorem dX10_token_105 : decode cX10_token 105 = .ok (.putfield 87, 3) := by decide +kernel
theorem dX10_token_108 : decode cX10_token 108 = .ok (.goto 147, 3) := by decide +kernel
theorem dX10_token_111 : decode cX10_token 111 = .ok (.iload_n 1, 1) := by decide +kernel
theorem dX10_token_112 : decode cX10_token 112 = .ok (.invokestatic 94, 3) := by decide +kernel
theorem dX10_token_115 : decode cX10_token 115 = .ok (.ifCond .eq 98, 3) := by decide +kernel
theorem dX10_token_118 : decode cX10_token 118 = .ok (.aload_n 0, 1) := by decide +kernel
theorem dX10_token_119 : decode cX10_token 119 = .ok (.iconst 0, 1) := by decide +kernel
theorem dX10_token_120 : decode cX10_token 120 = .ok (.putfield 97, 3) := by decide +kernel
theorem dX10_token_123 : decode cX10_token 123 = .ok (.aload_n 0, 1) := by decide +kernel
theorem dX10_token_124 : decode cX10_token 124 = .ok (.aload_n 0, 1) := by decide +kernel
theorem dX10_token_125 : decode cX10_token 125 = .ok (.getfield 77, 3) := by decide +kernel
theorem dX10_token_128 : decode cX10_token 128 = .ok (.invokevirtual 80, 3) := by decide +kernel
theorem dX10_token_131 : decode cX10_token 131 = .ok (.invokestatic 94, 3) := by decide +kernel
theorem dX10_token_134 : decode cX10_token 134 = .ok (.ifCond .eq 53, 3) := by decide +kernel
theorem dX10_token_137 : decode cX10_token 137 = .ok (.aload_n 0, 1) := by decide +kernel
theorem dX10_token_138 : decode cX10_token 138 = .ok (.getfield 77, 3) := by decide +kernel
theorem dX10_token_141 : decode cX10_token 141 = .ok (.aload_n 0, 1) := by decide +kernel
theorem dX10_token_142 : decode cX10_token 142 = .ok (.getfield 84, 3) := by decide +kernel
theorem dX10_token_145 : decode cX10_token 145 = .ok (.isub, 1) := by decide +kernel
theorem dX10_token_146 : decode cX10_token 146 = .ok (.bipush 6, 2) := by decide +kernel
theorem dX10_token_148 : decode cX10_token 148 = .ok (.if_icmp .ge 26, 3) := by decide +kernel
theorem dX10_token_151 : decode cX10_token 151 = .ok (.aload_n 0, 1) := by decide +kernel
theorem dX10_token_152 : decode cX10_token 152 = .ok (.bipush 10, 2) := by decide +kernel
theorem dX10_token_154 : decode cX10_token 154 = .ok (.aload_n 0, 1) := by decide +kernel
theorem dX10_token_155 : decode cX10_token 155 = .ok (.getfield 97, 3) := by decide +kernel
theorem dX10_token_158 : decode cX10_token 158 = .ok (.imul, 1) := by decide +kernel
theorem dX10_token_159 : decode cX10_token 159 = .ok (.aload_n 0, 1) := by decide +kernel
theorem dX10_token_160 : decode cX10_token 160 = .ok (.aload_n 0, 1) := by decide +kernel
theorem dX10_token_161 : decode cX10_token 161 = .ok (.getfield 77, 3) := by decide +kernel
theorem dX10_token_164 : decode cX10_token 164 = .ok (.invokevirtual 80, 3) := by decide +kernel
theorem dX10_token_167 : decode cX10_token 167 = .ok (.iadd, 1) := by decide +kernel
theorem dX10_token_168 : decode cX10_token 168 = .ok (.bipush 48, 2) := by decide +kernel
theorem dX10_token_170 : decode cX10_token 170 = .ok (.isub, 1) := by decide +kernel
theorem dX10_token_171 : decode cX10_token 171 = .ok (.putfield 97, 3) := by decide +kernel
theorem dX10_token_174 : decode cX10_token 174 = .ok (.aload_n 0, 1) := by decide +kernel
theorem dX10_token_175 : decode cX10_token 175 = .ok (.dup, 1) := by decide +kernel
theorem dX10_token_176 : decode cX10_token 176 = .ok (.getfield 77, 3) := by decide +kernel
theorem dX10_token_179 : decode cX10_token 179 = .ok (.iconst 1, 1) := by decide +kernel
theorem dX10_token_180 : decode cX10_token 180 = .ok (.iadd, 1) := by decide +kernel
theorem dX10_token_181 : decode cX10_token 181 = .ok (.putfield 77, 3) := by decide +kernel
theorem dX10_token_184 : decode cX10_token 184 = .ok (.goto (-61), 3) := by decide +kernel
theorem dX10_token_187 : decode cX10_token 187 = .ok (.aload_n 0, 1) := by decide +kernel
theorem dX10_token_188 : decode cX10_token 188 = .ok (.aload_n 0, 1) := by decide +kernel
theorem dX10_token_189 : decode cX10_token 189 = .ok (.getfield 77, 3) := by decide +kernel
theorem dX10_token_192 : decode cX10_token 192 = .ok (.aload_n 0, 1) := by decide +kernel
theorem dX10_token_193 : decode cX10_token 193 = .ok (.getfield 84, 3) := by decide +kernel
theorem dX10_token_196 : decode cX10_token 196 = .ok (.isub, 1) := by decide +kernel
theorem dX10_token_197 : decode cX10_token 197 = .ok (.bipush 6, 2) := by decide +kernel
theorem dX10_token_199 : decode cX10_token 199 = .ok (.if_icmp .le 7, 3) := by decide +kernel
theorem dX10_token_202 : decode cX10_token 202 = .ok (.iconst 4, 1) := by decide +kernel
theorem dX10_token_203 : decode cX10_token 203 = .ok (.goto 4, 3) := by decide +kernel
theorem dX10_token_206 : decode cX10_token 206 = .ok (.iconst 2, 1) := by decide +kernel
theorem dX10_token_207 : decode cX10_token 207 = .ok (.putfield 87, 3) := by decide +kernel
theorem dX10_token_210 : decode cX10_token 210 = .ok (.goto 45, 3) := by decide +kernel
theorem dX10_token_213 : decode cX10_token 213 = .ok (.aload_n 0, 1) := by decide +kernel
theorem dX10_token_214 : decode cX10_token 214 = .ok (.dup, 1) := by decide +kernel
theorem dX10_token_215 : decode cX10_token 215 = .ok (.getfield 77, 3) := by decide +kernel
theorem dX10_token_218 : decode cX10_token 218 = .ok (.iconst 1, 1) := by decide +kernel
theorem dX10_token_219 : decode cX10_token 219 = .ok (.iadd, 1) := by decide +kernel
theorem dX10_token_220 : decode cX10_token 220 = .ok (.putfield 77, 3) := by decide +kernel
theorem dX10_token_223 : decode cX10_token 223 = .ok (.aload_n 0, 1) := by decide +kernel
theorem dX10_token_224 : decode cX10_token 224 = .ok (.iload_n 1, 1) := by decide +kernel
theorem dX10_token_225 : decode cX10_token 225 = .ok (.putfield 97, 3) := by decide +kernel
theorem dX10_token_228 : decode cX10_token 228 = .ok (.aload_n 0, 1) := by decide +kernel
theorem dX10_token_229 : decode cX10_token 229 = .ok (.iload_n 1, 1) := by decide +kernel
theorem dX10_token_230 : decode cX10_token 230 = .ok (.bipush 58, 2) := by decide +kernel
theorem dX10_token_232 : decode cX10_token 232 = .ok (.if_icmp .eq 15, 3) := by decide +kernel
theorem dX10_token_235 : decode cX10_token 235 = .ok (.iload_n 1, 1) := by decide +kernel
theorem dX10_token_236 : decode cX10_token 236 = .ok (.bipush 59, 2) := by decide +kernel
theorem dX10_token_238 : decode cX10_token 238 = .ok (.if_icmp .eq 9, 3) := by decide +kernel
theorem dX10_token_241 : decode cX10_token 241 = .ok (.iload_n 1, 1) := by decide +kernel
theorem dX10_token_242 : decode cX10_token 242 = .ok (.bipush 45, 2) := by decide +kernel
theorem dX10_token_244 : decode cX10_token 244 = .ok (.if_icmp .ne 7, 3) := by decide +kernel
theorem dX10_token_247 : decode cX10_token 247 = .ok (.iconst 3, 1) := by decide +kernel
theorem dX10_token_248 : decode cX10_token 248 = .ok (.goto 4, 3) := by decide +kernel
theorem dX10_token_251 : decode cX10_token 251 = .ok (.iconst 4, 1) := by decide +kernel
theorem dX10_token_252 : decode cX10_token 252 = .ok (.putfield 87, 3) := by decide +kernel
theorem dX10_token_255 : decode cX10_token 255 = .ok (.return_, 1) := by decide +kernel
theorem dX10_isWrong_0 : decode cX10_isWrong 0 = .ok (.aload_n 0, 1) := by decide +kernel
theorem dX10_isWrong_1 : decode cX10_isWrong 1 = .ok (.getfield 100, 3) := by decide +kernel
theorem dX10_isWrong_4 : decode cX10_isWrong 4 = .ok (.ifCond .eq 7, 3) := by decide +kernel
theorem dX10_isWrong_7 : decode cX10_isWrong 7 = .ok (.iconst 1, 1) := by decide +kernel
theorem dX10_isWrong_8 : decode cX10_isWrong 8 = .ok (.goto 4, 3) := by decide +kernel
theorem dX10_isWrong_11 : decode cX10_isWrong 11 = .ok (.iconst 0, 1) := by decide +kernel
theorem dX10_isWrong_12 : decode cX10_isWrong 12 = .ok (.ireturn, 1) := by decide +kernel
theorem dX10_fails_0 : decode cX10_fails 0 = .ok (.aload_n 0, 1) := by decide +kernel
theorem dX10_fails_1 : decode cX10_fails 1 = .ok (.invokevirtual 103, 3) := by decide +kernel
theorem dX10_fails_4 : decode cX10_fails 4 = .ok (.ifCond .eq 4, 3) := by decide +kernel
theorem dX10_fails_7 : decode cX10_fails 7 = .ok (.return_, 1) := by decide +kernel
theorem dX10_fails_8 : decode cX10_fails 8 = .ok (.aload_n 0, 1) := by decide +kernel
theorem dX10_fails_9 : decode cX10_fails 9 = .ok (.iload_n 1, 1) := by decide +kernel
theorem dX10_fails_10 : decode cX10_fails 10 = .ok (.putfield 100, 3) := by decide +kernel
theorem dX10_fails_13 : decode cX10_fails 13 = .ok (.aload_n 0, 1) := by decide +kernel
theorem dX10_fails_14 : decode cX10_fails 14 = .ok (.aload_n 0, 1) := by decide +kernel
theorem dX10_fails_15 : decode cX10_fails 15 = .ok (.getfield 84, 3) := by decide +kernel
theorem dX10_fails_18 : decode cX10_fails 18 = .ok (.putfield 32, 3) := by decide +kernel
theorem dX10_fails_21 : decode cX10_fails 21 = .ok (.return_, 1) := by decide +kernel
theorem dX10_isWord_0 : decode cX10_isWord 0 = .ok (.aload_n 0, 1) := by decide +kernel
theorem dX10_isWord_1 : decode cX10_isWord 1 = .ok (.invokevirtual 103, 3) := by decide +kernel
theorem dX10_isWord_4 : decode cX10_isWord 4 = .ok (.ifCond .ne 27, 3) := by decide +kernel
theorem dX10_isWord_7 : decode cX10_isWord 7 = .ok (.aload_n 0, 1) := by decide +kernel
theorem dX10_isWord_8 : decode cX10_isWord 8 = .ok (.getfield 87, 3) := by decide +kernel
theorem dX10_isWord_11 : decode cX10_isWord 11 = .ok (.iconst 1, 1) := by decide +kernel
theorem dX10_isWord_12 : decode cX10_isWord 12 = .ok (.if_icmp .ne 19, 3) := by decide +kernel
theorem dX10_isWord_15 : decode cX10_isWord 15 = .ok (.aload_n 0, 1) := by decide +kernel
theorem dX10_isWord_16 : decode cX10_isWord 16 = .ok (.getfield 77, 3) := by decide +kernel
theorem dX10_isWord_19 : decode cX10_isWord 19 = .ok (.aload_n 0, 1) := by decide +kernel
theorem dX10_isWord_20 : decode cX10_isWord 20 = .ok (.getfield 84, 3) := by decide +kernel
theorem dX10_isWord_23 : decode cX10_isWord 23 = .ok (.isub, 1) := by decide +kernel
theorem dX10_isWord_24 : decode cX10_isWord 24 = .ok (.aload_n 1, 1) := by decide +kernel
theorem dX10_isWord_25 : decode cX10_isWord 25 = .ok (.invokevirtual 107, 3) := by decide +kernel
theorem dX10_isWord_28 : decode cX10_isWord 28 = .ok (.if_icmp .eq 5, 3) := by decide +kernel
theorem dX10_isWord_31 : decode cX10_isWord 31 = .ok (.iconst 0, 1) := by decide +kernel
theorem dX10_isWord_32 : decode cX10_isWord 32 = .ok (.ireturn, 1) := by decide +kernel
theorem dX10_isWord_33 : decode cX10_isWord 33 = .ok (.iconst 0, 1) := by decide +kernel
theorem dX10_isWord_34 : decode cX10_isWord 34 = .ok (.istore_n 2, 1) := by decide +kernel
theorem dX10_isWord_35 : decode cX10_isWord 35 = .ok (.iload_n 2, 1) := by decide +kernel
theorem dX10_isWord_36 : decode cX10_isWord 36 = .ok (.aload_n 1, 1) := by decide +kernel
theorem dX10_isWord_37 : decode cX10_isWord 37 = .ok (.invokevirtual 107, 3) := by decide +kernel
theorem dX10_isWord_40 : decode cX10_isWord 40 = .ok (.if_icmp .ge 29, 3) := by decide +kernel
theorem dX10_isWord_43 : decode cX10_isWord 43 = .ok (.aload_n 0, 1) := by decide +kernel
theorem dX10_isWord_44 : decode cX10_isWord 44 = .ok (.aload_n 0, 1) := by decide +kernel
theorem dX10_isWord_45 : decode cX10_isWord 45 = .ok (.getfield 84, 3) := by decide +kernel
theorem dX10_isWord_48 : decode cX10_isWord 48 = .ok (.iload_n 2, 1) := by decide +kernel
theorem dX10_isWord_49 : decode cX10_isWord 49 = .ok (.iadd, 1) := by decide +kernel
theorem dX10_isWord_50 : decode cX10_isWord 50 = .ok (.invokevirtual 80, 3) := by decide +kernel
theorem dX10_isWord_53 : decode cX10_isWord 53 = .ok (.aload_n 1, 1) := by decide +kernel
theorem dX10_isWord_54 : decode cX10_isWord 54 = .ok (.iload_n 2, 1) := by decide +kernel
theorem dX10_isWord_55 : decode cX10_isWord 55 = .ok (.invokevirtual 113, 3) := by decide +kernel
theorem dX10_isWord_58 : decode cX10_isWord 58 = .ok (.if_icmp .eq 5, 3) := by decide +kernel
theorem dX10_isWord_61 : decode cX10_isWord 61 = .ok (.iconst 0, 1) := by decide +kernel
theorem dX10_isWord_62 : decode cX10_isWord 62 = .ok (.ireturn, 1) := by decide +kernel
theorem dX10_isWord_63 : decode cX10_isWord 63 = .ok (.iinc 2 1, 3) := by decide +kernel
theorem dX10_isWord_66 : decode cX10_isWord 66 = .ok (.goto (-31), 3) := by decide +kernel
theorem dX10_isWord_69 : decode cX10_isWord 69 = .ok (.iconst 1, 1) := by decide +kernel
theorem dX10_isWord_70 : decode cX10_isWord 70 = .ok (.ireturn, 1) := by decide +kernel
theorem dX10_takesWord_0 : decode cX10_takesWord 0 = .ok (.aload_n 0, 1) := by decide +kernel
theorem dX10_takesWord_1 : decode cX10_takesWord 1 = .ok (.aload_n 1, 1) := by decide +kernel
theorem dX10_takesWord_2 : decode cX10_takesWord 2 = .ok (.invokevirtual 117, 3) := by decide +kernel
theorem dX10_takesWord_5 : decode cX10_takesWord 5 = .ok (.istore_n 2, 1) := by decide +kernel
theorem dX10_takesWord_6 : decode cX10_takesWord 6 = .ok (.iload_n 2, 1) := by decide +kernel
theorem dX10_takesWord_7 : decode cX10_takesWord 7 = .ok (.ifCond .eq 7, 3) := by decide +kernel
theorem dX10_takesWord_10 : decode cX10_takesWord 10 = .ok (.aload_n 0, 1) := by decide +kernel
theorem dX10_takesWord_11 : decode cX10_takesWord 11 = .ok (.invokevirtual 121, 3) := by decide +kernel
theorem dX10_takesWord_14 : decode cX10_takesWord 14 = .ok (.iload_n 2, 1) := by decide +kernel
theorem dX10_takesWord_15 : decode cX10_takesWord 15 = .ok (.ireturn, 1) := by decide +kernel
theorem dX10_takesSign_0 : decode cX10_takesSign 0 = .ok (.aload_n 0, 1) := by decide +kernel
theorem dX10_takesSign_1 : decode cX10_takesSign 1 = .ok (.invokevirtual 103, 3) := by decide +kernel
theorem dX10_takesSign_4 : decode cX10_takesSign 4 = .ok (.ifCond .ne 19, 3) := by decide +kernel
theorem dX10_takesSign_7 : decode cX10_takesSign 7 = .ok (.aload_n 0, 1) := by decide +kernel
theorem dX10_takesSign_8 : decode cX10_takesSign 8 = .ok (.getfield 87, 3) := by decide +kernel
theorem dX10_takesSign_11 : decode cX10_takesSign 11 = .ok (.iconst 3, 1) := by decide +kernel
theorem dX10_takesSign_12 : decode cX10_takesSign 12 = .ok (.if_icmp .ne 11, 3) := by decide +kernel
theorem dX10_takesSign_15 : decode cX10_takesSign 15 = .ok (.aload_n 0, 1) := by decide +kernel
theorem dX10_takesSign_16 : decode cX10_takesSign 16 = .ok (.getfield 97, 3) := by decide +kernel
theorem dX10_takesSign_19 : decode cX10_takesSign 19 = .ok (.iload_n 1, 1) := by decide +kernel
theorem dX10_takesSign_20 : decode cX10_takesSign 20 = .ok (.if_icmp .eq 5, 3) := by decide +kernel
theorem dX10_takesSign_23 : decode cX10_takesSign 23 = .ok (.iconst 0, 1) := by decide +kernel
theorem dX10_takesSign_24 : decode cX10_takesSign 24 = .ok (.ireturn, 1) := by decide +kernel
theorem dX10_takesSign_25 : decode cX10_takesSign 25 = .ok (.aload_n 0, 1) := by decide +kernel
theorem dX10_takesSign_26 : decode cX10_takesSign 26 = .ok (.invokevirtual 121, 3) := by decide +kernel
theorem dX10_takesSign_29 : decode cX10_takesSign 29 = .ok (.iconst 1, 1) := by decide +kernel
theorem dX10_takesSign_30 : decode cX10_takesSign 30 = .ok (.ireturn, 1) := by decide +kernel
theorem dX10_figure_0 : decode cX10_figure 0 = .ok (.aload_n 0, 1) := by decide +kernel
theorem dX10_figure_1 : decode cX10_figure 1 = .ok (.invokevirtual 103, 3) := by decide +kernel
theorem dX10_figure_4 : decode cX10_figure 4 = .ok (.ifCond .eq 5, 3) := by decide +kernel
theorem dX10_figure_7 : decode cX10_figure 7 = .ok (.iload_n 1, 1) := by decide +kernel
theorem dX10_figure_8 : decode cX10_figure 8 = .ok (.ireturn, 1) := by decide +kernel
theorem dX10_figure_9 : decode cX10_figure 9 = .ok (.aload_n 0, 1) := by decide +kernel
theorem dX10_figure_10 : decode cX10_figure 10 = .ok (.getfield 87, 3) := by decide +kernel
theorem dX10_figure_13 : decode cX10_figure 13 = .ok (.iconst 2, 1) := by decide +kernel
theorem dX10_figure_14 : decode cX10_figure 14 = .ok (.if_icmp .eq 11, 3) := by decide +kernel
theorem dX10_figure_17 : decode cX10_figure 17 = .ok (.aload_n 0, 1) := by decide +kernel
theorem dX10_figure_18 : decode cX10_figure 18 = .ok (.iconst 1, 1) := by decide +kernel
theorem dX10_figure_19 : decode cX10_figure 19 = .ok (.invokevirtual 124, 3) := by decide +kernel
theorem dX10_figure_22 : decode cX10_figure 22 = .ok (.goto 20, 3) := by decide +kernel
theorem dX10_figure_25 : decode cX10_figure 25 = .ok (.aload_n 0, 1) := by decide +kernel
theorem dX10_figure_26 : decode cX10_figure 26 = .ok (.getfield 97, 3) := by decide +kernel
theorem dX10_figure_29 : decode cX10_figure 29 = .ok (.iload_n 1, 1) := by decide +kernel
theorem dX10_figure_30 : decode cX10_figure 30 = .ok (.iload_n 2, 1) := by decide +kernel
theorem dX10_figure_31 : decode cX10_figure 31 = .ok (.invokestatic 70, 3) := by decide +kernel
theorem dX10_figure_34 : decode cX10_figure 34 = .ok (.ifCond .ne 8, 3) := by decide +kernel
theorem dX10_figure_37 : decode cX10_figure 37 = .ok (.aload_n 0, 1) := by decide +kernel
theorem dX10_figure_38 : decode cX10_figure 38 = .ok (.iconst 2, 1) := by decide +kernel
theorem dX10_figure_39 : decode cX10_figure 39 = .ok (.invokevirtual 124, 3) := by decide +kernel
theorem dX10_figure_42 : decode cX10_figure 42 = .ok (.aload_n 0, 1) := by decide +kernel
theorem dX10_figure_43 : decode cX10_figure 43 = .ok (.getfield 97, 3) := by decide +kernel
theorem dX10_figure_46 : decode cX10_figure 46 = .ok (.istore_n 3, 1) := by decide +kernel
theorem dX10_figure_47 : decode cX10_figure 47 = .ok (.aload_n 0, 1) := by decide +kernel
theorem dX10_figure_48 : decode cX10_figure 48 = .ok (.invokevirtual 103, 3) := by decide +kernel
theorem dX10_figure_51 : decode cX10_figure 51 = .ok (.ifCond .ne 7, 3) := by decide +kernel
theorem dX10_figure_54 : decode cX10_figure 54 = .ok (.aload_n 0, 1) := by decide +kernel
theorem dX10_figure_55 : decode cX10_figure 55 = .ok (.invokevirtual 121, 3) := by decide +kernel
theorem dX10_figure_58 : decode cX10_figure 58 = .ok (.iload_n 3, 1) := by decide +kernel
theorem dX10_figure_59 : decode cX10_figure 59 = .ok (.ireturn, 1) := by decide +kernel
theorem dX10_must_0 : decode cX10_must 0 = .ok (.iload_n 1, 1) := by decide +kernel
theorem dX10_must_1 : decode cX10_must 1 = .ok (.ifCond .ne 8, 3) := by decide +kernel
theorem dX10_must_4 : decode cX10_must 4 = .ok (.aload_n 0, 1) := by decide +kernel
theorem dX10_must_5 : decode cX10_must 5 = .ok (.iconst 1, 1) := by decide +kernel
theorem dX10_must_6 : decode cX10_must 6 = .ok (.invokevirtual 124, 3) := by decide +kernel
theorem dX10_must_9 : decode cX10_must 9 = .ok (.return_, 1) := by decide +kernel
theorem dX10_header_0 : decode cX10_header 0 = .ok (.aload_n 0, 1) := by decide +kernel
theorem dX10_header_1 : decode cX10_header 1 = .ok (.aload_n 0, 1) := by decide +kernel
theorem dX10_header_2 : decode cX10_header 2 = .ok (.ldc 128, 2) := by decide +kernel
theorem dX10_header_4 : decode cX10_header 4 = .ok (.invokevirtual 130, 3) := by decide +kernel
theorem dX10_header_7 : decode cX10_header 7 = .ok (.invokevirtual 133, 3) := by decide +kernel
theorem dX10_header_10 : decode cX10_header 10 = .ok (.aload_n 0, 1) := by decide +kernel
theorem dX10_header_11 : decode cX10_header 11 = .ok (.getfield 26, 3) := by decide +kernel
theorem dX10_header_14 : decode cX10_header 14 = .ok (.iconst 0, 1) := by decide +kernel
theorem dX10_header_15 : decode cX10_header 15 = .ok (.aload_n 0, 1) := by decide +kernel
theorem dX10_header_16 : decode cX10_header 16 = .ok (.iconst 1, 1) := by decide +kernel
theorem dX10_header_17 : decode cX10_header 17 = .ok (.bipush 8, 2) := by decide +kernel
theorem dX10_header_19 : decode cX10_header 19 = .ok (.invokevirtual 137, 3) := by decide +kernel
theorem dX10_header_22 : decode cX10_header 22 = .ok (.iastore, 1) := by decide +kernel
theorem dX10_header_23 : decode cX10_header 23 = .ok (.aload_n 0, 1) := by decide +kernel
theorem dX10_header_24 : decode cX10_header 24 = .ok (.aload_n 0, 1) := by decide +kernel
theorem dX10_header_25 : decode cX10_header 25 = .ok (.ldc 141, 2) := by decide +kernel
theorem dX10_header_27 : decode cX10_header 27 = .ok (.invokevirtual 130, 3) := by decide +kernel
theorem dX10_header_30 : decode cX10_header 30 = .ok (.invokevirtual 133, 3) := by decide +kernel
theorem dX10_header_33 : decode cX10_header 33 = .ok (.aload_n 0, 1) := by decide +kernel
theorem dX10_header_34 : decode cX10_header 34 = .ok (.getfield 26, 3) := by decide +kernel
theorem dX10_header_37 : decode cX10_header 37 = .ok (.iconst 1, 1) := by decide +kernel
theorem dX10_header_38 : decode cX10_header 38 = .ok (.aload_n 0, 1) := by decide +kernel
theorem dX10_header_39 : decode cX10_header 39 = .ok (.iconst 1, 1) := by decide +kernel
theorem dX10_header_40 : decode cX10_header 40 = .ok (.bipush 16, 2) := by decide +kernel
theorem dX10_header_42 : decode cX10_header 42 = .ok (.invokevirtual 137, 3) := by decide +kernel
theorem dX10_header_45 : decode cX10_header 45 = .ok (.iastore, 1) := by decide +kernel
theorem dX10_header_46 : decode cX10_header 46 = .ok (.aload_n 0, 1) := by decide +kernel
theorem dX10_header_47 : decode cX10_header 47 = .ok (.aload_n 0, 1) := by decide +kernel
theorem dX10_header_48 : decode cX10_header 48 = .ok (.ldc 143, 2) := by decide +kernel
theorem dX10_header_50 : decode cX10_header 50 = .ok (.invokevirtual 130, 3) := by decide +kernel
theorem dX10_header_53 : decode cX10_header 53 = .ok (.invokevirtual 133, 3) := by decide +kernel
theorem dX10_header_56 : decode cX10_header 56 = .ok (.aload_n 0, 1) := by decide +kernel
theorem dX10_header_57 : decode cX10_header 57 = .ok (.getfield 26, 3) := by decide +kernel
theorem dX10_header_60 : decode cX10_header 60 = .ok (.iconst 2, 1) := by decide +kernel
theorem dX10_header_61 : decode cX10_header 61 = .ok (.aload_n 0, 1) := by decide +kernel
theorem dX10_header_62 : decode cX10_header 62 = .ok (.iconst 1, 1) := by decide +kernel
theorem dX10_header_63 : decode cX10_header 63 = .ok (.bipush 8, 2) := by decide +kernel
theorem dX10_header_65 : decode cX10_header 65 = .ok (.invokevirtual 137, 3) := by decide +kernel
theorem dX10_header_68 : decode cX10_header 68 = .ok (.iastore, 1) := by decide +kernel
theorem dX10_header_69 : decode cX10_header 69 = .ok (.aload_n 0, 1) := by decide +kernel
theorem dX10_header_70 : decode cX10_header 70 = .ok (.aload_n 0, 1) := by decide +kernel
theorem dX10_header_71 : decode cX10_header 71 = .ok (.bipush 59, 2) := by decide +kernel
theorem dX10_header_73 : decode cX10_header 73 = .ok (.invokevirtual 145, 3) := by decide +kernel
theorem dX10_header_76 : decode cX10_header 76 = .ok (.invokevirtual 133, 3) := by decide +kernel
theorem dX10_header_79 : decode cX10_header 79 = .ok (.return_, 1) := by decide +kernel
theorem dX10_setting_0 : decode cX10_setting 0 = .ok (.aload_n 0, 1) := by decide +kernel
theorem dX10_setting_1 : decode cX10_setting 1 = .ok (.ldc 148, 2) := by decide +kernel
theorem dX10_setting_3 : decode cX10_setting 3 = .ok (.invokevirtual 117, 3) := by decide +kernel
theorem dX10_setting_6 : decode cX10_setting 6 = .ok (.ifCond .eq 5, 3) := by decide +kernel
theorem dX10_setting_9 : decode cX10_setting 9 = .ok (.iconst 3, 1) := by decide +kernel
theorem dX10_setting_10 : decode cX10_setting 10 = .ok (.ireturn, 1) := by decide +kernel
theorem dX10_setting_11 : decode cX10_setting 11 = .ok (.aload_n 0, 1) := by decide +kernel
theorem dX10_setting_12 : decode cX10_setting 12 = .ok (.ldc 150, 2) := by decide +kernel
theorem dX10_setting_14 : decode cX10_setting 14 = .ok (.invokevirtual 117, 3) := by decide +kernel
theorem dX10_setting_17 : decode cX10_setting 17 = .ok (.ifCond .eq 5, 3) := by decide +kernel
theorem dX10_setting_20 : decode cX10_setting 20 = .ok (.iconst 4, 1) := by decide +kernel
theorem dX10_setting_21 : decode cX10_setting 21 = .ok (.ireturn, 1) := by decide +kernel
theorem dX10_setting_22 : decode cX10_setting 22 = .ok (.aload_n 0, 1) := by decide +kernel
theorem dX10_setting_23 : decode cX10_setting 23 = .ok (.ldc 152, 2) := by decide +kernel
theorem dX10_setting_25 : decode cX10_setting 25 = .ok (.invokevirtual 117, 3) := by decide +kernel
theorem dX10_setting_28 : decode cX10_setting 28 = .ok (.ifCond .eq 5, 3) := by decide +kernel
theorem dX10_setting_31 : decode cX10_setting 31 = .ok (.iconst 5, 1) := by decide +kernel
theorem dX10_setting_32 : decode cX10_setting 32 = .ok (.ireturn, 1) := by decide +kernel
theorem dX10_setting_33 : decode cX10_setting 33 = .ok (.aload_n 0, 1) := by decide +kernel
theorem dX10_setting_34 : decode cX10_setting 34 = .ok (.ldc 154, 2) := by decide +kernel
theorem dX10_setting_36 : decode cX10_setting 36 = .ok (.invokevirtual 117, 3) := by decide +kernel
theorem dX10_setting_39 : decode cX10_setting 39 = .ok (.ifCond .eq 6, 3) := by decide +kernel
theorem dX10_setting_42 : decode cX10_setting 42 = .ok (.bipush 6, 2) := by decide +kernel
theorem dX10_setting_44 : decode cX10_setting 44 = .ok (.ireturn, 1) := by decide +kernel
theorem dX10_setting_45 : decode cX10_setting 45 = .ok (.aload_n 0, 1) := by decide +kernel
theorem dX10_setting_46 : decode cX10_setting 46 = .ok (.ldc 156, 2) := by decide +kernel
theorem dX10_setting_48 : decode cX10_setting 48 = .ok (.invokevirtual 117, 3) := by decide +kernel
theorem dX10_setting_51 : decode cX10_setting 51 = .ok (.ifCond .eq 6, 3) := by decide +kernel
theorem dX10_setting_54 : decode cX10_setting 54 = .ok (.bipush 7, 2) := by decide +kernel
theorem dX10_setting_56 : decode cX10_setting 56 = .ok (.ireturn, 1) := by decide +kernel
theorem dX10_setting_57 : decode cX10_setting 57 = .ok (.aload_n 0, 1) := by decide +kernel
theorem dX10_setting_58 : decode cX10_setting 58 = .ok (.ldc 158, 2) := by decide +kernel
theorem dX10_setting_60 : decode cX10_setting 60 = .ok (.invokevirtual 117, 3) := by decide +kernel
theorem dX10_setting_63 : decode cX10_setting 63 = .ok (.ifCond .eq 6, 3) := by decide +kernel
theorem dX10_setting_66 : decode cX10_setting 66 = .ok (.bipush 8, 2) := by decide +kernel
theorem dX10_setting_68 : decode cX10_setting 68 = .ok (.ireturn, 1) := by decide +kernel
theorem dX10_setting_69 : decode cX10_setting 69 = .ok (.aload_n 0, 1) := by decide +kernel
theorem dX10_setting_70 : decode cX10_setting 70 = .ok (.ldc 160, 2) := by decide +kernel
theorem dX10_setting_72 : decode cX10_setting 72 = .ok (.invokevirtual 117, 3) := by decide +kernel
theorem dX10_setting_75 : decode cX10_setting 75 = .ok (.ifCond .eq 6, 3) := by decide +kernel
theorem dX10_setting_78 : decode cX10_setting 78 = .ok (.bipush 9, 2) := by decide +kernel
theorem dX10_setting_80 : decode cX10_setting 80 = .ok (.ireturn, 1) := by decide +kernel
theorem dX10_setting_81 : decode cX10_setting 81 = .ok (.aload_n 0, 1) := by decide +kernel
theorem dX10_setting_82 : decode cX10_setting 82 = .ok (.ldc 162, 2) := by decide +kernel
theorem dX10_setting_84 : decode cX10_setting 84 = .ok (.invokevirtual 117, 3) := by decide +kernel
theorem dX10_setting_87 : decode cX10_setting 87 = .ok (.ifCond .eq 6, 3) := by decide +kernel
theorem dX10_setting_90 : decode cX10_setting 90 = .ok (.bipush 10, 2) := by decide +kernel
theorem dX10_setting_92 : decode cX10_setting 92 = .ok (.ireturn, 1) := by decide +kernel
theorem dX10_setting_93 : decode cX10_setting 93 = .ok (.aload_n 0, 1) := by decide +kernel
theorem dX10_setting_94 : decode cX10_setting 94 = .ok (.ldc 164, 2) := by decide +kernel
theorem dX10_setting_96 : decode cX10_setting 96 = .ok (.invokevirtual 117, 3) := by decide +kernel
theorem dX10_setting_99 : decode cX10_setting 99 = .ok (.ifCond .eq 8, 3) := by decide +kernel
theorem dX10_setting_102 : decode cX10_setting 102 = .ok (.bipush 11, 2) := by decide +kernel
theorem dX10_setting_104 : decode cX10_setting 104 = .ok (.goto 4, 3) := by decide +kernel
theorem dX10_setting_107 : decode cX10_setting 107 = .ok (.iconst (-1), 1) := by decide +kernel
theorem dX10_setting_108 : decode cX10_setting 108 = .ok (.ireturn, 1) := by decide +kernel
theorem dX10_settings_0 : decode cX10_settings 0 = .ok (.iconst 0, 1) := by decide +kernel
theorem dX10_settings_1 : decode cX10_settings 1 = .ok (.istore_n 1, 1) := by decide +kernel
theorem dX10_settings_2 : decode cX10_settings 2 = .ok (.aload_n 0, 1) := by decide +kernel
theorem dX10_settings_3 : decode cX10_settings 3 = .ok (.invokevirtual 166, 3) := by decide +kernel
theorem dX10_settings_6 : decode cX10_settings 6 = .ok (.istore_n 2, 1) := by decide +kernel
theorem dX10_settings_7 : decode cX10_settings 7 = .ok (.iload_n 2, 1) := by decide +kernel
theorem dX10_settings_8 : decode cX10_settings 8 = .ok (.iconst (-1), 1) := by decide +kernel
theorem dX10_settings_9 : decode cX10_settings 9 = .ok (.if_icmp .eq 115, 3) := by decide +kernel
theorem dX10_settings_12 : decode cX10_settings 12 = .ok (.iload_n 1, 1) := by decide +kernel
theorem dX10_settings_13 : decode cX10_settings 13 = .ok (.iload_n 2, 1) := by decide +kernel
theorem dX10_settings_14 : decode cX10_settings 14 = .ok (.invokestatic 169, 3) := by decide +kernel
theorem dX10_settings_17 : decode cX10_settings 17 = .ok (.ifCond .eq 8, 3) := by decide +kernel
theorem dX10_settings_20 : decode cX10_settings 20 = .ok (.aload_n 0, 1) := by decide +kernel
theorem dX10_settings_21 : decode cX10_settings 21 = .ok (.iconst 3, 1) := by decide +kernel
theorem dX10_settings_22 : decode cX10_settings 22 = .ok (.invokevirtual 124, 3) := by decide +kernel
theorem dX10_settings_25 : decode cX10_settings 25 = .ok (.iload_n 1, 1) := by decide +kernel
theorem dX10_settings_26 : decode cX10_settings 26 = .ok (.iconst 1, 1) := by decide +kernel
theorem dX10_settings_27 : decode cX10_settings 27 = .ok (.iload_n 2, 1) := by decide +kernel
theorem dX10_settings_28 : decode cX10_settings 28 = .ok (.ishl, 1) := by decide +kernel
theorem dX10_settings_29 : decode cX10_settings 29 = .ok (.ior, 1) := by decide +kernel
theorem dX10_settings_30 : decode cX10_settings 30 = .ok (.istore_n 1, 1) := by decide +kernel
theorem dX10_settings_31 : decode cX10_settings 31 = .ok (.aload_n 0, 1) := by decide +kernel
theorem dX10_settings_32 : decode cX10_settings 32 = .ok (.invokevirtual 103, 3) := by decide +kernel
theorem dX10_settings_35 : decode cX10_settings 35 = .ok (.ifCond .ne 7, 3) := by decide +kernel
theorem dX10_settings_38 : decode cX10_settings 38 = .ok (.aload_n 0, 1) := by decide +kernel
theorem dX10_settings_39 : decode cX10_settings 39 = .ok (.invokevirtual 121, 3) := by decide +kernel
theorem dX10_settings_42 : decode cX10_settings 42 = .ok (.iload_n 2, 1) := by decide +kernel
theorem dX10_settings_43 : decode cX10_settings 43 = .ok (.bipush 9, 2) := by decide +kernel
theorem dX10_settings_45 : decode cX10_settings 45 = .ok (.if_icmp .ne 13, 3) := by decide +kernel
theorem dX10_settings_48 : decode cX10_settings 48 = .ok (.aload_n 0, 1) := by decide +kernel
theorem dX10_settings_49 : decode cX10_settings 49 = .ok (.iconst 1, 1) := by decide +kernel
theorem dX10_settings_50 : decode cX10_settings 50 = .ok (.bipush 8, 2) := by decide +kernel
theorem dX10_settings_52 : decode cX10_settings 52 = .ok (.invokevirtual 137, 3) := by decide +kernel
theorem dX10_settings_55 : decode cX10_settings 55 = .ok (.goto 43, 3) := by decide +kernel
theorem dX10_settings_58 : decode cX10_settings 58 = .ok (.iload_n 2, 1) := by decide +kernel
theorem dX10_settings_59 : decode cX10_settings 59 = .ok (.bipush 10, 2) := by decide +kernel
theorem dX10_settings_61 : decode cX10_settings 61 = .ok (.if_icmp .ne 14, 3) := by decide +kernel
theorem dX10_settings_64 : decode cX10_settings 64 = .ok (.aload_n 0, 1) := by decide +kernel
theorem dX10_settings_65 : decode cX10_settings 65 = .ok (.iconst 1, 1) := by decide +kernel
theorem dX10_settings_66 : decode cX10_settings 66 = .ok (.sipush 1000, 3) := by decide +kernel
theorem dX10_settings_69 : decode cX10_settings 69 = .ok (.invokevirtual 137, 3) := by decide +kernel
theorem dX10_settings_72 : decode cX10_settings 72 = .ok (.goto 26, 3) := by decide +kernel
theorem dX10_settings_75 : decode cX10_settings 75 = .ok (.iload_n 2, 1) := by decide +kernel
theorem dX10_settings_76 : decode cX10_settings 76 = .ok (.bipush 11, 2) := by decide +kernel
theorem dX10_settings_78 : decode cX10_settings 78 = .ok (.if_icmp .ne 13, 3) := by decide +kernel
theorem dX10_settings_81 : decode cX10_settings 81 = .ok (.aload_n 0, 1) := by decide +kernel
theorem dX10_settings_82 : decode cX10_settings 82 = .ok (.iconst 0, 1) := by decide +kernel
theorem dX10_settings_83 : decode cX10_settings 83 = .ok (.bipush 8, 2) := by decide +kernel
theorem dX10_settings_85 : decode cX10_settings 85 = .ok (.invokevirtual 137, 3) := by decide +kernel
theorem dX10_settings_88 : decode cX10_settings 88 = .ok (.goto 10, 3) := by decide +kernel
theorem dX10_settings_91 : decode cX10_settings 91 = .ok (.aload_n 0, 1) := by decide +kernel
theorem dX10_settings_92 : decode cX10_settings 92 = .ok (.iconst 1, 1) := by decide +kernel
theorem dX10_settings_93 : decode cX10_settings 93 = .ok (.bipush 100, 2) := by decide +kernel
theorem dX10_settings_95 : decode cX10_settings 95 = .ok (.invokevirtual 137, 3) := by decide +kernel
theorem dX10_settings_98 : decode cX10_settings 98 = .ok (.istore_n 3, 1) := by decide +kernel
theorem dX10_settings_99 : decode cX10_settings 99 = .ok (.aload_n 0, 1) := by decide +kernel
theorem dX10_settings_100 : decode cX10_settings 100 = .ok (.getfield 26, 3) := by decide +kernel
theorem dX10_settings_103 : decode cX10_settings 103 = .ok (.iload_n 2, 1) := by decide +kernel
theorem dX10_settings_104 : decode cX10_settings 104 = .ok (.iload_n 3, 1) := by decide +kernel
theorem dX10_settings_105 : decode cX10_settings 105 = .ok (.iastore, 1) := by decide +kernel
theorem dX10_settings_106 : decode cX10_settings 106 = .ok (.aload_n 0, 1) := by decide +kernel
theorem dX10_settings_107 : decode cX10_settings 107 = .ok (.aload_n 0, 1) := by decide +kernel
theorem dX10_settings_108 : decode cX10_settings 108 = .ok (.bipush 59, 2) := by decide +kernel
theorem dX10_settings_110 : decode cX10_settings 110 = .ok (.invokevirtual 145, 3) := by decide +kernel
theorem dX10_settings_113 : decode cX10_settings 113 = .ok (.invokevirtual 133, 3) := by decide +kernel
theorem dX10_settings_116 : decode cX10_settings 116 = .ok (.aload_n 0, 1) := by decide +kernel
theorem dX10_settings_117 : decode cX10_settings 117 = .ok (.invokevirtual 166, 3) := by decide +kernel
theorem dX10_settings_120 : decode cX10_settings 120 = .ok (.istore_n 2, 1) := by decide +kernel
theorem dX10_settings_121 : decode cX10_settings 121 = .ok (.goto (-114), 3) := by decide +kernel
theorem dX10_settings_124 : decode cX10_settings 124 = .ok (.return_, 1) := by decide +kernel
theorem dX10_way_0 : decode cX10_way 0 = .ok (.aload_n 0, 1) := by decide +kernel
theorem dX10_way_1 : decode cX10_way 1 = .ok (.ldc 173, 2) := by decide +kernel
theorem dX10_way_3 : decode cX10_way 3 = .ok (.invokevirtual 117, 3) := by decide +kernel
theorem dX10_way_6 : decode cX10_way 6 = .ok (.ifCond .eq 5, 3) := by decide +kernel
theorem dX10_way_9 : decode cX10_way 9 = .ok (.iconst 0, 1) := by decide +kernel
theorem dX10_way_10 : decode cX10_way 10 = .ok (.ireturn, 1) := by decide +kernel
theorem dX10_way_11 : decode cX10_way 11 = .ok (.aload_n 0, 1) := by decide +kernel
theorem dX10_way_12 : decode cX10_way 12 = .ok (.ldc 175, 2) := by decide +kernel
theorem dX10_way_14 : decode cX10_way 14 = .ok (.invokevirtual 117, 3) := by decide +kernel
theorem dX10_way_17 : decode cX10_way 17 = .ok (.ifCond .eq 5, 3) := by decide +kernel
theorem dX10_way_20 : decode cX10_way 20 = .ok (.iconst 1, 1) := by decide +kernel
theorem dX10_way_21 : decode cX10_way 21 = .ok (.ireturn, 1) := by decide +kernel
theorem dX10_way_22 : decode cX10_way 22 = .ok (.aload_n 0, 1) := by decide +kernel
theorem dX10_way_23 : decode cX10_way 23 = .ok (.ldc 177, 2) := by decide +kernel
theorem dX10_way_25 : decode cX10_way 25 = .ok (.invokevirtual 117, 3) := by decide +kernel
theorem dX10_way_28 : decode cX10_way 28 = .ok (.ifCond .eq 5, 3) := by decide +kernel
theorem dX10_way_31 : decode cX10_way 31 = .ok (.iconst 2, 1) := by decide +kernel
theorem dX10_way_32 : decode cX10_way 32 = .ok (.ireturn, 1) := by decide +kernel
theorem dX10_way_33 : decode cX10_way 33 = .ok (.aload_n 0, 1) := by decide +kernel
theorem dX10_way_34 : decode cX10_way 34 = .ok (.ldc 179, 2) := by decide +kernel
theorem dX10_way_36 : decode cX10_way 36 = .ok (.invokevirtual 117, 3) := by decide +kernel
theorem dX10_way_39 : decode cX10_way 39 = .ok (.ifCond .eq 5, 3) := by decide +kernel
theorem dX10_way_42 : decode cX10_way 42 = .ok (.iconst 3, 1) := by decide +kernel
theorem dX10_way_43 : decode cX10_way 43 = .ok (.ireturn, 1) := by decide +kernel
theorem dX10_way_44 : decode cX10_way 44 = .ok (.aload_n 0, 1) := by decide +kernel
theorem dX10_way_45 : decode cX10_way 45 = .ok (.ldc 181, 2) := by decide +kernel
theorem dX10_way_47 : decode cX10_way 47 = .ok (.invokevirtual 117, 3) := by decide +kernel
theorem dX10_way_50 : decode cX10_way 50 = .ok (.ifCond .eq 5, 3) := by decide +kernel
theorem dX10_way_53 : decode cX10_way 53 = .ok (.iconst 4, 1) := by decide +kernel
theorem dX10_way_54 : decode cX10_way 54 = .ok (.ireturn, 1) := by decide +kernel
theorem dX10_way_55 : decode cX10_way 55 = .ok (.aload_n 0, 1) := by decide +kernel
theorem dX10_way_56 : decode cX10_way 56 = .ok (.ldc 183, 2) := by decide +kernel
theorem dX10_way_58 : decode cX10_way 58 = .ok (.invokevirtual 117, 3) := by decide +kernel
theorem dX10_way_61 : decode cX10_way 61 = .ok (.ifCond .eq 5, 3) := by decide +kernel
theorem dX10_way_64 : decode cX10_way 64 = .ok (.iconst 5, 1) := by decide +kernel
theorem dX10_way_65 : decode cX10_way 65 = .ok (.ireturn, 1) := by decide +kernel
theorem dX10_way_66 : decode cX10_way 66 = .ok (.aload_n 0, 1) := by decide +kernel
theorem dX10_way_67 : decode cX10_way 67 = .ok (.ldc 185, 2) := by decide +kernel
theorem dX10_way_69 : decode cX10_way 69 = .ok (.invokevirtual 117, 3) := by decide +kernel
theorem dX10_way_72 : decode cX10_way 72 = .ok (.ifCond .eq 6, 3) := by decide +kernel
theorem dX10_way_75 : decode cX10_way 75 = .ok (.bipush 6, 2) := by decide +kernel
theorem dX10_way_77 : decode cX10_way 77 = .ok (.ireturn, 1) := by decide +kernel
theorem dX10_way_78 : decode cX10_way 78 = .ok (.iload_n 1, 1) := by decide +kernel
theorem dX10_way_79 : decode cX10_way 79 = .ok (.ifCond .eq 17, 3) := by decide +kernel
theorem dX10_way_82 : decode cX10_way 82 = .ok (.aload_n 0, 1) := by decide +kernel
theorem dX10_way_83 : decode cX10_way 83 = .ok (.ldc 187, 2) := by decide +kernel
theorem dX10_way_85 : decode cX10_way 85 = .ok (.invokevirtual 117, 3) := by decide +kernel
theorem dX10_way_88 : decode cX10_way 88 = .ok (.ifCond .eq 8, 3) := by decide +kernel
theorem dX10_way_91 : decode cX10_way 91 = .ok (.bipush 7, 2) := by decide +kernel
theorem dX10_way_93 : decode cX10_way 93 = .ok (.goto 4, 3) := by decide +kernel
theorem dX10_way_96 : decode cX10_way 96 = .ok (.iconst (-1), 1) := by decide +kernel
theorem dX10_way_97 : decode cX10_way 97 = .ok (.ireturn, 1) := by decide +kernel
theorem dX10_kind_0 : decode cX10_kind 0 = .ok (.aload_n 0, 1) := by decide +kernel
theorem dX10_kind_1 : decode cX10_kind 1 = .ok (.ldc 189, 2) := by decide +kernel
theorem dX10_kind_3 : decode cX10_kind 3 = .ok (.invokevirtual 117, 3) := by decide +kernel
theorem dX10_kind_6 : decode cX10_kind 6 = .ok (.ifCond .eq 5, 3) := by decide +kernel
theorem dX10_kind_9 : decode cX10_kind 9 = .ok (.iconst 0, 1) := by decide +kernel
theorem dX10_kind_10 : decode cX10_kind 10 = .ok (.ireturn, 1) := by decide +kernel
theorem dX10_kind_11 : decode cX10_kind 11 = .ok (.aload_n 0, 1) := by decide +kernel
theorem dX10_kind_12 : decode cX10_kind 12 = .ok (.ldc 191, 2) := by decide +kernel
theorem dX10_kind_14 : decode cX10_kind 14 = .ok (.invokevirtual 117, 3) := by decide +kernel
theorem dX10_kind_17 : decode cX10_kind 17 = .ok (.ifCond .eq 5, 3) := by decide +kernel
theorem dX10_kind_20 : decode cX10_kind 20 = .ok (.iconst 1, 1) := by decide +kernel
theorem dX10_kind_21 : decode cX10_kind 21 = .ok (.ireturn, 1) := by decide +kernel
theorem dX10_kind_22 : decode cX10_kind 22 = .ok (.aload_n 0, 1) := by decide +kernel
theorem dX10_kind_23 : decode cX10_kind 23 = .ok (.ldc 193, 2) := by decide +kernel
theorem dX10_kind_25 : decode cX10_kind 25 = .ok (.invokevirtual 117, 3) := by decide +kernel
theorem dX10_kind_28 : decode cX10_kind 28 = .ok (.ifCond .eq 5, 3) := by decide +kernel
theorem dX10_kind_31 : decode cX10_kind 31 = .ok (.iconst 2, 1) := by decide +kernel
theorem dX10_kind_32 : decode cX10_kind 32 = .ok (.ireturn, 1) := by decide +kernel
theorem dX10_kind_33 : decode cX10_kind 33 = .ok (.aload_n 0, 1) := by decide +kernel
theorem dX10_kind_34 : decode cX10_kind 34 = .ok (.iconst 1, 1) := by decide +kernel
theorem dX10_kind_35 : decode cX10_kind 35 = .ok (.invokevirtual 195, 3) := by decide +kernel
theorem dX10_kind_38 : decode cX10_kind 38 = .ok (.iconst (-1), 1) := by decide +kernel
theorem dX10_kind_39 : decode cX10_kind 39 = .ok (.if_icmp .eq 5, 3) := by decide +kernel
theorem dX10_kind_42 : decode cX10_kind 42 = .ok (.iconst 3, 1) := by decide +kernel
theorem dX10_kind_43 : decode cX10_kind 43 = .ok (.ireturn, 1) := by decide +kernel
theorem dX10_kind_44 : decode cX10_kind 44 = .ok (.aload_n 0, 1) := by decide +kernel
theorem dX10_kind_45 : decode cX10_kind 45 = .ok (.ldc 156, 2) := by decide +kernel
theorem dX10_kind_47 : decode cX10_kind 47 = .ok (.invokevirtual 117, 3) := by decide +kernel
theorem dX10_kind_50 : decode cX10_kind 50 = .ok (.ifCond .eq 5, 3) := by decide +kernel
theorem dX10_kind_53 : decode cX10_kind 53 = .ok (.iconst 4, 1) := by decide +kernel
theorem dX10_kind_54 : decode cX10_kind 54 = .ok (.ireturn, 1) := by decide +kernel
theorem dX10_kind_55 : decode cX10_kind 55 = .ok (.aload_n 0, 1) := by decide +kernel
theorem dX10_kind_56 : decode cX10_kind 56 = .ok (.ldc 199, 2) := by decide +kernel
theorem dX10_kind_58 : decode cX10_kind 58 = .ok (.invokevirtual 117, 3) := by decide +kernel
theorem dX10_kind_61 : decode cX10_kind 61 = .ok (.ifCond .eq 5, 3) := by decide +kernel
theorem dX10_kind_64 : decode cX10_kind 64 = .ok (.iconst 5, 1) := by decide +kernel
theorem dX10_kind_65 : decode cX10_kind 65 = .ok (.ireturn, 1) := by decide +kernel
theorem dX10_kind_66 : decode cX10_kind 66 = .ok (.aload_n 0, 1) := by decide +kernel
theorem dX10_kind_67 : decode cX10_kind 67 = .ok (.ldc 201, 2) := by decide +kernel
theorem dX10_kind_69 : decode cX10_kind 69 = .ok (.invokevirtual 117, 3) := by decide +kernel
theorem dX10_kind_72 : decode cX10_kind 72 = .ok (.ifCond .eq 6, 3) := by decide +kernel
theorem dX10_kind_75 : decode cX10_kind 75 = .ok (.bipush 6, 2) := by decide +kernel
theorem dX10_kind_77 : decode cX10_kind 77 = .ok (.ireturn, 1) := by decide +kernel
theorem dX10_kind_78 : decode cX10_kind 78 = .ok (.aload_n 0, 1) := by decide +kernel
theorem dX10_kind_79 : decode cX10_kind 79 = .ok (.ldc 203, 2) := by decide +kernel
theorem dX10_kind_81 : decode cX10_kind 81 = .ok (.invokevirtual 117, 3) := by decide +kernel
theorem dX10_kind_84 : decode cX10_kind 84 = .ok (.ifCond .eq 8, 3) := by decide +kernel
theorem dX10_kind_87 : decode cX10_kind 87 = .ok (.bipush 7, 2) := by decide +kernel
theorem dX10_kind_89 : decode cX10_kind 89 = .ok (.goto 4, 3) := by decide +kernel
theorem dX10_kind_92 : decode cX10_kind 92 = .ok (.iconst (-1), 1) := by decide +kernel
theorem dX10_kind_93 : decode cX10_kind 93 = .ok (.ireturn, 1) := by decide +kernel
theorem dX10_register_0 : decode cX10_register 0 = .ok (.aload_n 0, 1) := by decide +kernel
theorem dX10_register_1 : decode cX10_register 1 = .ok (.iconst 0, 1) := by decide +kernel
theorem dX10_register_2 : decode cX10_register 2 = .ok (.iconst 3, 1) := by decide +kernel
theorem dX10_register_3 : decode cX10_register 3 = .ok (.invokevirtual 137, 3) := by decide +kernel
theorem dX10_register_6 : decode cX10_register 6 = .ok (.ireturn, 1) := by decide +kernel
theorem dX10_command_0 : decode cX10_command 0 = .ok (.aload_n 0, 1) := by decide +kernel
theorem dX10_command_1 : decode cX10_command 1 = .ok (.getfield 26, 3) := by decide +kernel
theorem dX10_command_4 : decode cX10_command 4 = .ok (.bipush 13, 2) := by decide +kernel
theorem dX10_command_6 : decode cX10_command 6 = .ok (.iaload, 1) := by decide +kernel
theorem dX10_command_7 : decode cX10_command 7 = .ok (.bipush 60, 2) := by decide +kernel
theorem dX10_command_9 : decode cX10_command 9 = .ok (.if_icmp .ne 8, 3) := by decide +kernel
theorem dX10_command_12 : decode cX10_command 12 = .ok (.aload_n 0, 1) := by decide +kernel
theorem dX10_command_13 : decode cX10_command 13 = .ok (.iconst 4, 1) := by decide +kernel
theorem dX10_command_14 : decode cX10_command 14 = .ok (.invokevirtual 124, 3) := by decide +kernel
theorem dX10_command_17 : decode cX10_command 17 = .ok (.aload_n 0, 1) := by decide +kernel
theorem dX10_command_18 : decode cX10_command 18 = .ok (.invokevirtual 103, 3) := by decide +kernel
theorem dX10_command_21 : decode cX10_command 21 = .ok (.ifCond .eq 4, 3) := by decide +kernel
theorem dX10_command_24 : decode cX10_command 24 = .ok (.return_, 1) := by decide +kernel
theorem dX10_command_25 : decode cX10_command 25 = .ok (.bipush 50, 2) := by decide +kernel
theorem dX10_command_27 : decode cX10_command 27 = .ok (.iconst 4, 1) := by decide +kernel
theorem dX10_command_28 : decode cX10_command 28 = .ok (.aload_n 0, 1) := by decide +kernel
theorem dX10_command_29 : decode cX10_command 29 = .ok (.getfield 26, 3) := by decide +kernel
theorem dX10_command_32 : decode cX10_command 32 = .ok (.bipush 13, 2) := by decide +kernel
theorem dX10_command_34 : decode cX10_command 34 = .ok (.iaload, 1) := by decide +kernel
theorem dX10_command_35 : decode cX10_command 35 = .ok (.imul, 1) := by decide +kernel
theorem dX10_command_36 : decode cX10_command 36 = .ok (.iadd, 1) := by decide +kernel
theorem dX10_command_37 : decode cX10_command 37 = .ok (.istore_n 2, 1) := by decide +kernel
theorem dX10_command_38 : decode cX10_command 38 = .ok (.iload_n 1, 1) := by decide +kernel
theorem dX10_command_39 : decode cX10_command 39 = .ok (.iconst 3, 1) := by decide +kernel
theorem dX10_command_40 : decode cX10_command 40 = .ok (.if_icmp .ne 11, 3) := by decide +kernel
theorem dX10_command_43 : decode cX10_command 43 = .ok (.aload_n 0, 1) := by decide +kernel
theorem dX10_command_44 : decode cX10_command 44 = .ok (.iconst 1, 1) := by decide +kernel
theorem dX10_command_45 : decode cX10_command 45 = .ok (.invokevirtual 195, 3) := by decide +kernel
theorem dX10_command_48 : decode cX10_command 48 = .ok (.goto 4, 3) := by decide +kernel
theorem dX10_command_51 : decode cX10_command 51 = .ok (.iconst (-1), 1) := by decide +kernel
theorem dX10_command_52 : decode cX10_command 52 = .ok (.istore_n 3, 1) := by decide +kernel
theorem dX10_command_53 : decode cX10_command 53 = .ok (.aload_n 0, 1) := by decide +kernel
theorem dX10_command_54 : decode cX10_command 54 = .ok (.invokevirtual 121, 3) := by decide +kernel
theorem dX10_command_57 : decode cX10_command 57 = .ok (.aload_n 0, 1) := by decide +kernel
theorem dX10_command_58 : decode cX10_command 58 = .ok (.getfield 26, 3) := by decide +kernel
theorem dX10_command_61 : decode cX10_command 61 = .ok (.iload_n 2, 1) := by decide +kernel
theorem dX10_command_62 : decode cX10_command 62 = .ok (.iload_n 1, 1) := by decide +kernel
theorem dX10_command_63 : decode cX10_command 63 = .ok (.iconst 3, 1) := by decide +kernel
theorem dX10_command_64 : decode cX10_command 64 = .ok (.if_icmp .ne 12, 3) := by decide +kernel
theorem dX10_command_67 : decode cX10_command 67 = .ok (.iconst 3, 1) := by decide +kernel
theorem dX10_command_68 : decode cX10_command 68 = .ok (.bipush 8, 2) := by decide +kernel
theorem dX10_command_70 : decode cX10_command 70 = .ok (.iload_n 3, 1) := by decide +kernel
theorem dX10_command_71 : decode cX10_command 71 = .ok (.imul, 1) := by decide +kernel
theorem dX10_command_72 : decode cX10_command 72 = .ok (.iadd, 1) := by decide +kernel
theorem dX10_command_73 : decode cX10_command 73 = .ok (.goto 4, 3) := by decide +kernel
theorem dX10_command_76 : decode cX10_command 76 = .ok (.iload_n 1, 1) := by decide +kernel
theorem dX10_command_77 : decode cX10_command 77 = .ok (.iastore, 1) := by decide +kernel
theorem dX10_command_78 : decode cX10_command 78 = .ok (.iload_n 1, 1) := by decide +kernel
theorem dX10_command_79 : decode cX10_command 79 = .ok (.iconst 4, 1) := by decide +kernel
theorem dX10_command_80 : decode cX10_command 80 = .ok (.if_icmp .eq 8, 3) := by decide +kernel
theorem dX10_command_83 : decode cX10_command 83 = .ok (.iload_n 1, 1) := by decide +kernel
theorem dX10_command_84 : decode cX10_command 84 = .ok (.iconst 5, 1) := by decide +kernel
theorem dX10_command_85 : decode cX10_command 85 = .ok (.if_icmp .ne 42, 3) := by decide +kernel
theorem dX10_command_88 : decode cX10_command 88 = .ok (.aload_n 0, 1) := by decide +kernel
theorem dX10_command_89 : decode cX10_command 89 = .ok (.iconst 0, 1) := by decide +kernel
theorem dX10_command_90 : decode cX10_command 90 = .ok (.invokevirtual 195, 3) := by decide +kernel
theorem dX10_command_93 : decode cX10_command 93 = .ok (.istore_n 3, 1) := by decide +kernel
theorem dX10_command_94 : decode cX10_command 94 = .ok (.iload_n 3, 1) := by decide +kernel
theorem dX10_command_95 : decode cX10_command 95 = .ok (.iconst (-1), 1) := by decide +kernel
theorem dX10_command_96 : decode cX10_command 96 = .ok (.if_icmp .ne 8, 3) := by decide +kernel
theorem dX10_command_99 : decode cX10_command 99 = .ok (.aload_n 0, 1) := by decide +kernel
theorem dX10_command_100 : decode cX10_command 100 = .ok (.iconst 1, 1) := by decide +kernel
theorem dX10_command_101 : decode cX10_command 101 = .ok (.invokevirtual 124, 3) := by decide +kernel
theorem dX10_command_104 : decode cX10_command 104 = .ok (.aload_n 0, 1) := by decide +kernel
theorem dX10_command_105 : decode cX10_command 105 = .ok (.invokevirtual 103, 3) := by decide +kernel
theorem dX10_command_108 : decode cX10_command 108 = .ok (.ifCond .ne 7, 3) := by decide +kernel
theorem dX10_command_111 : decode cX10_command 111 = .ok (.aload_n 0, 1) := by decide +kernel
theorem dX10_command_112 : decode cX10_command 112 = .ok (.invokevirtual 121, 3) := by decide +kernel
theorem dX10_command_115 : decode cX10_command 115 = .ok (.aload_n 0, 1) := by decide +kernel
theorem dX10_command_116 : decode cX10_command 116 = .ok (.getfield 26, 3) := by decide +kernel
theorem dX10_command_119 : decode cX10_command 119 = .ok (.iload_n 2, 1) := by decide +kernel
theorem dX10_command_120 : decode cX10_command 120 = .ok (.iload_n 1, 1) := by decide +kernel
theorem dX10_command_121 : decode cX10_command 121 = .ok (.bipush 8, 2) := by decide +kernel
theorem dX10_command_123 : decode cX10_command 123 = .ok (.iload_n 3, 1) := by decide +kernel
theorem dX10_command_124 : decode cX10_command 124 = .ok (.imul, 1) := by decide +kernel
theorem dX10_command_125 : decode cX10_command 125 = .ok (.iadd, 1) := by decide +kernel
theorem dX10_command_126 : decode cX10_command 126 = .ok (.iastore, 1) := by decide +kernel
theorem dX10_command_127 : decode cX10_command 127 = .ok (.iload_n 1, 1) := by decide +kernel
theorem dX10_command_128 : decode cX10_command 128 = .ok (.bipush 7, 2) := by decide +kernel
theorem dX10_command_130 : decode cX10_command 130 = .ok (.if_icmp .eq 15, 3) := by decide +kernel
theorem dX10_command_133 : decode cX10_command 133 = .ok (.aload_n 0, 1) := by decide +kernel
theorem dX10_command_134 : decode cX10_command 134 = .ok (.getfield 26, 3) := by decide +kernel
theorem dX10_command_137 : decode cX10_command 137 = .ok (.iload_n 2, 1) := by decide +kernel
theorem dX10_command_138 : decode cX10_command 138 = .ok (.iconst 1, 1) := by decide +kernel
theorem dX10_command_139 : decode cX10_command 139 = .ok (.iadd, 1) := by decide +kernel
theorem dX10_command_140 : decode cX10_command 140 = .ok (.aload_n 0, 1) := by decide +kernel
theorem dX10_command_141 : decode cX10_command 141 = .ok (.invokevirtual 205, 3) := by decide +kernel
theorem dX10_command_144 : decode cX10_command 144 = .ok (.iastore, 1) := by decide +kernel
theorem dX10_command_145 : decode cX10_command 145 = .ok (.iload_n 1, 1) := by decide +kernel
theorem dX10_command_146 : decode cX10_command 146 = .ok (.ifCond .eq 8, 3) := by decide +kernel
theorem dX10_command_149 : decode cX10_command 149 = .ok (.iload_n 1, 1) := by decide +kernel
theorem dX10_command_150 : decode cX10_command 150 = .ok (.iconst 1, 1) := by decide +kernel
theorem dX10_command_151 : decode cX10_command 151 = .ok (.if_icmp .ne 24, 3) := by decide +kernel
theorem dX10_command_154 : decode cX10_command 154 = .ok (.aload_n 0, 1) := by decide +kernel
theorem dX10_command_155 : decode cX10_command 155 = .ok (.getfield 26, 3) := by decide +kernel
theorem dX10_command_158 : decode cX10_command 158 = .ok (.iload_n 2, 1) := by decide +kernel
theorem dX10_command_159 : decode cX10_command 159 = .ok (.iconst 2, 1) := by decide +kernel
theorem dX10_command_160 : decode cX10_command 160 = .ok (.iadd, 1) := by decide +kernel
theorem dX10_command_161 : decode cX10_command 161 = .ok (.aload_n 0, 1) := by decide +kernel
theorem dX10_command_162 : decode cX10_command 162 = .ok (.iconst 0, 1) := by decide +kernel
theorem dX10_command_163 : decode cX10_command 163 = .ok (.aload_n 0, 1) := by decide +kernel
theorem dX10_command_164 : decode cX10_command 164 = .ok (.getfield 26, 3) := by decide +kernel
theorem dX10_command_167 : decode cX10_command 167 = .ok (.iconst 1, 1) := by decide +kernel
theorem dX10_command_168 : decode cX10_command 168 = .ok (.iaload, 1) := by decide +kernel
theorem dX10_command_169 : decode cX10_command 169 = .ok (.iconst 1, 1) := by decide +kernel
theorem dX10_command_170 : decode cX10_command 170 = .ok (.isub, 1) := by decide +kernel
theorem dX10_command_171 : decode cX10_command 171 = .ok (.invokevirtual 137, 3) := by decide +kernel
theorem dX10_command_174 : decode cX10_command 174 = .ok (.iastore, 1) := by decide +kernel
theorem dX10_command_175 : decode cX10_command 175 = .ok (.iload_n 1, 1) := by decide +kernel
theorem dX10_command_176 : decode cX10_command 176 = .ok (.iconst 2, 1) := by decide +kernel
theorem dX10_command_177 : decode cX10_command 177 = .ok (.if_icmp .ne 41, 3) := by decide +kernel
theorem dX10_command_180 : decode cX10_command 180 = .ok (.aload_n 0, 1) := by decide +kernel
theorem dX10_command_181 : decode cX10_command 181 = .ok (.bipush 45, 2) := by decide +kernel
theorem dX10_command_183 : decode cX10_command 183 = .ok (.invokevirtual 145, 3) := by decide +kernel
theorem dX10_command_186 : decode cX10_command 186 = .ok (.istore 4, 2) := by decide +kernel
theorem dX10_command_188 : decode cX10_command 188 = .ok (.aload_n 0, 1) := by decide +kernel
theorem dX10_command_189 : decode cX10_command 189 = .ok (.iconst 0, 1) := by decide +kernel
theorem dX10_command_190 : decode cX10_command 190 = .ok (.ldc 208, 2) := by decide +kernel
theorem dX10_command_192 : decode cX10_command 192 = .ok (.invokevirtual 137, 3) := by decide +kernel
theorem dX10_command_195 : decode cX10_command 195 = .ok (.istore 5, 2) := by decide +kernel
theorem dX10_command_197 : decode cX10_command 197 = .ok (.aload_n 0, 1) := by decide +kernel
theorem dX10_command_198 : decode cX10_command 198 = .ok (.getfield 26, 3) := by decide +kernel
theorem dX10_command_201 : decode cX10_command 201 = .ok (.iload_n 2, 1) := by decide +kernel
theorem dX10_command_202 : decode cX10_command 202 = .ok (.iconst 2, 1) := by decide +kernel
theorem dX10_command_203 : decode cX10_command 203 = .ok (.iadd, 1) := by decide +kernel
theorem dX10_command_204 : decode cX10_command 204 = .ok (.iload 4, 2) := by decide +kernel
theorem dX10_command_206 : decode cX10_command 206 = .ok (.ifCond .eq 9, 3) := by decide +kernel
theorem dX10_command_209 : decode cX10_command 209 = .ok (.iload 5, 2) := by decide +kernel
theorem dX10_command_211 : decode cX10_command 211 = .ok (.ineg, 1) := by decide +kernel
theorem dX10_command_212 : decode cX10_command 212 = .ok (.goto 5, 3) := by decide +kernel
theorem dX10_command_215 : decode cX10_command 215 = .ok (.iload 5, 2) := by decide +kernel
theorem dX10_command_217 : decode cX10_command 217 = .ok (.iastore, 1) := by decide +kernel
theorem dX10_command_218 : decode cX10_command 218 = .ok (.iload_n 1, 1) := by decide +kernel
theorem dX10_command_219 : decode cX10_command 219 = .ok (.iconst 3, 1) := by decide +kernel
theorem dX10_command_220 : decode cX10_command 220 = .ok (.if_icmp .ne 27, 3) := by decide +kernel
theorem dX10_command_223 : decode cX10_command 223 = .ok (.aload_n 0, 1) := by decide +kernel
theorem dX10_command_224 : decode cX10_command 224 = .ok (.getfield 26, 3) := by decide +kernel
theorem dX10_command_227 : decode cX10_command 227 = .ok (.iload_n 2, 1) := by decide +kernel
theorem dX10_command_228 : decode cX10_command 228 = .ok (.iconst 2, 1) := by decide +kernel
theorem dX10_command_229 : decode cX10_command 229 = .ok (.iadd, 1) := by decide +kernel
theorem dX10_command_230 : decode cX10_command 230 = .ok (.aload_n 0, 1) := by decide +kernel
theorem dX10_command_231 : decode cX10_command 231 = .ok (.invokevirtual 205, 3) := by decide +kernel
theorem dX10_command_234 : decode cX10_command 234 = .ok (.iastore, 1) := by decide +kernel
theorem dX10_command_235 : decode cX10_command 235 = .ok (.aload_n 0, 1) := by decide +kernel
theorem dX10_command_236 : decode cX10_command 236 = .ok (.getfield 26, 3) := by decide +kernel
theorem dX10_command_239 : decode cX10_command 239 = .ok (.iload_n 2, 1) := by decide +kernel
theorem dX10_command_240 : decode cX10_command 240 = .ok (.iconst 3, 1) := by decide +kernel
theorem dX10_command_241 : decode cX10_command 241 = .ok (.iadd, 1) := by decide +kernel
theorem dX10_command_242 : decode cX10_command 242 = .ok (.aload_n 0, 1) := by decide +kernel
theorem dX10_command_243 : decode cX10_command 243 = .ok (.invokevirtual 205, 3) := by decide +kernel
theorem dX10_command_246 : decode cX10_command 246 = .ok (.iastore, 1) := by decide +kernel
theorem dX10_command_247 : decode cX10_command 247 = .ok (.aload_n 0, 1) := by decide +kernel
theorem dX10_command_248 : decode cX10_command 248 = .ok (.aload_n 0, 1) := by decide +kernel
theorem dX10_command_249 : decode cX10_command 249 = .ok (.bipush 59, 2) := by decide +kernel
theorem dX10_command_251 : decode cX10_command 251 = .ok (.invokevirtual 145, 3) := by decide +kernel
theorem dX10_command_254 : decode cX10_command 254 = .ok (.invokevirtual 133, 3) := by decide +kernel
theorem dX10_command_257 : decode cX10_command 257 = .ok (.aload_n 0, 1) := by decide +kernel
theorem dX10_command_258 : decode cX10_command 258 = .ok (.getfield 26, 3) := by decide +kernel
theorem dX10_command_261 : decode cX10_command 261 = .ok (.bipush 13, 2) := by decide +kernel
theorem dX10_command_263 : decode cX10_command 263 = .ok (.dup2, 1) := by decide +kernel
theorem dX10_command_264 : decode cX10_command 264 = .ok (.iaload, 1) := by decide +kernel
theorem dX10_command_265 : decode cX10_command 265 = .ok (.iconst 1, 1) := by decide +kernel
theorem dX10_command_266 : decode cX10_command 266 = .ok (.iadd, 1) := by decide +kernel
theorem dX10_command_267 : decode cX10_command 267 = .ok (.iastore, 1) := by decide +kernel
theorem dX10_command_268 : decode cX10_command 268 = .ok (.return_, 1) := by decide +kernel
theorem dX10_batch_0 : decode cX10_batch 0 = .ok (.aload_n 0, 1) := by decide +kernel
theorem dX10_batch_1 : decode cX10_batch 1 = .ok (.getfield 26, 3) := by decide +kernel
theorem dX10_batch_4 : decode cX10_batch 4 = .ok (.bipush 12, 2) := by decide +kernel
theorem dX10_batch_6 : decode cX10_batch 6 = .ok (.iaload, 1) := by decide +kernel
theorem dX10_batch_7 : decode cX10_batch 7 = .ok (.bipush 12, 2) := by decide +kernel
theorem dX10_batch_9 : decode cX10_batch 9 = .ok (.if_icmp .ne 8, 3) := by decide +kernel
theorem dX10_batch_12 : decode cX10_batch 12 = .ok (.aload_n 0, 1) := by decide +kernel
theorem dX10_batch_13 : decode cX10_batch 13 = .ok (.iconst 4, 1) := by decide +kernel
theorem dX10_batch_14 : decode cX10_batch 14 = .ok (.invokevirtual 124, 3) := by decide +kernel
theorem dX10_batch_17 : decode cX10_batch 17 = .ok (.aload_n 0, 1) := by decide +kernel
theorem dX10_batch_18 : decode cX10_batch 18 = .ok (.invokevirtual 103, 3) := by decide +kernel
theorem dX10_batch_21 : decode cX10_batch 21 = .ok (.ifCond .eq 4, 3) := by decide +kernel
theorem dX10_batch_24 : decode cX10_batch 24 = .ok (.return_, 1) := by decide +kernel
theorem dX10_batch_25 : decode cX10_batch 25 = .ok (.aload_n 0, 1) := by decide +kernel
theorem dX10_batch_26 : decode cX10_batch 26 = .ok (.invokevirtual 121, 3) := by decide +kernel
theorem dX10_batch_29 : decode cX10_batch 29 = .ok (.bipush 14, 2) := by decide +kernel
theorem dX10_batch_31 : decode cX10_batch 31 = .ok (.iconst 3, 1) := by decide +kernel
theorem dX10_batch_32 : decode cX10_batch 32 = .ok (.aload_n 0, 1) := by decide +kernel
theorem dX10_batch_33 : decode cX10_batch 33 = .ok (.getfield 26, 3) := by decide +kernel
theorem dX10_batch_36 : decode cX10_batch 36 = .ok (.bipush 12, 2) := by decide +kernel
theorem dX10_batch_38 : decode cX10_batch 38 = .ok (.iaload, 1) := by decide +kernel
theorem dX10_batch_39 : decode cX10_batch 39 = .ok (.imul, 1) := by decide +kernel
theorem dX10_batch_40 : decode cX10_batch 40 = .ok (.iadd, 1) := by decide +kernel
theorem dX10_batch_41 : decode cX10_batch 41 = .ok (.istore_n 1, 1) := by decide +kernel
theorem dX10_batch_42 : decode cX10_batch 42 = .ok (.iconst 0, 1) := by decide +kernel
theorem dX10_batch_43 : decode cX10_batch 43 = .ok (.istore_n 2, 1) := by decide +kernel
theorem dX10_batch_44 : decode cX10_batch 44 = .ok (.iconst 1, 1) := by decide +kernel
theorem dX10_batch_45 : decode cX10_batch 45 = .ok (.istore_n 3, 1) := by decide +kernel
theorem dX10_batch_46 : decode cX10_batch 46 = .ok (.iload_n 3, 1) := by decide +kernel
theorem dX10_batch_47 : decode cX10_batch 47 = .ok (.ifCond .eq 88, 3) := by decide +kernel
theorem dX10_batch_50 : decode cX10_batch 50 = .ok (.aload_n 0, 1) := by decide +kernel
theorem dX10_batch_51 : decode cX10_batch 51 = .ok (.invokevirtual 103, 3) := by decide +kernel
theorem dX10_batch_54 : decode cX10_batch 54 = .ok (.ifCond .ne 81, 3) := by decide +kernel
theorem dX10_batch_57 : decode cX10_batch 57 = .ok (.aload_n 0, 1) := by decide +kernel
theorem dX10_batch_58 : decode cX10_batch 58 = .ok (.getfield 87, 3) := by decide +kernel
theorem dX10_batch_61 : decode cX10_batch 61 = .ok (.iconst 2, 1) := by decide +kernel
theorem dX10_batch_62 : decode cX10_batch 62 = .ok (.if_icmp .ne 38, 3) := by decide +kernel
theorem dX10_batch_65 : decode cX10_batch 65 = .ok (.aload_n 0, 1) := by decide +kernel
theorem dX10_batch_66 : decode cX10_batch 66 = .ok (.getfield 97, 3) := by decide +kernel
theorem dX10_batch_69 : decode cX10_batch 69 = .ok (.iconst 0, 1) := by decide +kernel
theorem dX10_batch_70 : decode cX10_batch 70 = .ok (.aload_n 0, 1) := by decide +kernel
theorem dX10_batch_71 : decode cX10_batch 71 = .ok (.getfield 26, 3) := by decide +kernel
theorem dX10_batch_74 : decode cX10_batch 74 = .ok (.iconst 0, 1) := by decide +kernel
theorem dX10_batch_75 : decode cX10_batch 75 = .ok (.iaload, 1) := by decide +kernel
theorem dX10_batch_76 : decode cX10_batch 76 = .ok (.iconst 1, 1) := by decide +kernel
theorem dX10_batch_77 : decode cX10_batch 77 = .ok (.isub, 1) := by decide +kernel
theorem dX10_batch_78 : decode cX10_batch 78 = .ok (.invokestatic 70, 3) := by decide +kernel
theorem dX10_batch_81 : decode cX10_batch 81 = .ok (.ifCond .eq 19, 3) := by decide +kernel
theorem dX10_batch_84 : decode cX10_batch 84 = .ok (.iload_n 2, 1) := by decide +kernel
theorem dX10_batch_85 : decode cX10_batch 85 = .ok (.aload_n 0, 1) := by decide +kernel
theorem dX10_batch_86 : decode cX10_batch 86 = .ok (.getfield 97, 3) := by decide +kernel
theorem dX10_batch_89 : decode cX10_batch 89 = .ok (.invokestatic 169, 3) := by decide +kernel
theorem dX10_batch_92 : decode cX10_batch 92 = .ok (.ifCond .eq 8, 3) := by decide +kernel
theorem dX10_batch_95 : decode cX10_batch 95 = .ok (.aload_n 0, 1) := by decide +kernel
theorem dX10_batch_96 : decode cX10_batch 96 = .ok (.iconst 3, 1) := by decide +kernel
theorem dX10_batch_97 : decode cX10_batch 97 = .ok (.invokevirtual 124, 3) := by decide +kernel
theorem dX10_batch_100 : decode cX10_batch 100 = .ok (.iload_n 2, 1) := by decide +kernel
theorem dX10_batch_101 : decode cX10_batch 101 = .ok (.iconst 1, 1) := by decide +kernel
theorem dX10_batch_102 : decode cX10_batch 102 = .ok (.aload_n 0, 1) := by decide +kernel
theorem dX10_batch_103 : decode cX10_batch 103 = .ok (.iconst 0, 1) := by decide +kernel
theorem dX10_batch_104 : decode cX10_batch 104 = .ok (.aload_n 0, 1) := by decide +kernel
theorem dX10_batch_105 : decode cX10_batch 105 = .ok (.getfield 26, 3) := by decide +kernel
theorem dX10_batch_108 : decode cX10_batch 108 = .ok (.iconst 0, 1) := by decide +kernel
theorem dX10_batch_109 : decode cX10_batch 109 = .ok (.iaload, 1) := by decide +kernel
theorem dX10_batch_110 : decode cX10_batch 110 = .ok (.iconst 1, 1) := by decide +kernel
theorem dX10_batch_111 : decode cX10_batch 111 = .ok (.isub, 1) := by decide +kernel
theorem dX10_batch_112 : decode cX10_batch 112 = .ok (.invokevirtual 137, 3) := by decide +kernel
theorem dX10_batch_115 : decode cX10_batch 115 = .ok (.ishl, 1) := by decide +kernel
theorem dX10_batch_116 : decode cX10_batch 116 = .ok (.ior, 1) := by decide +kernel
theorem dX10_batch_117 : decode cX10_batch 117 = .ok (.istore_n 2, 1) := by decide +kernel
theorem dX10_batch_118 : decode cX10_batch 118 = .ok (.aload_n 0, 1) := by decide +kernel
theorem dX10_batch_119 : decode cX10_batch 119 = .ok (.getfield 87, 3) := by decide +kernel
theorem dX10_batch_122 : decode cX10_batch 122 = .ok (.iconst 2, 1) := by decide +kernel
theorem dX10_batch_123 : decode cX10_batch 123 = .ok (.if_icmp .ne 7, 3) := by decide +kernel
theorem dX10_batch_126 : decode cX10_batch 126 = .ok (.iconst 1, 1) := by decide +kernel
theorem dX10_batch_127 : decode cX10_batch 127 = .ok (.goto 4, 3) := by decide +kernel
theorem dX10_batch_130 : decode cX10_batch 130 = .ok (.iconst 0, 1) := by decide +kernel
theorem dX10_batch_131 : decode cX10_batch 131 = .ok (.istore_n 3, 1) := by decide +kernel
theorem dX10_batch_132 : decode cX10_batch 132 = .ok (.goto (-86), 3) := by decide +kernel
theorem dX10_batch_135 : decode cX10_batch 135 = .ok (.aload_n 0, 1) := by decide +kernel
theorem dX10_batch_136 : decode cX10_batch 136 = .ok (.aload_n 0, 1) := by decide +kernel
theorem dX10_batch_137 : decode cX10_batch 137 = .ok (.bipush 58, 2) := by decide +kernel
theorem dX10_batch_139 : decode cX10_batch 139 = .ok (.invokevirtual 145, 3) := by decide +kernel
theorem dX10_batch_142 : decode cX10_batch 142 = .ok (.invokevirtual 133, 3) := by decide +kernel
theorem dX10_batch_145 : decode cX10_batch 145 = .ok (.aload_n 0, 1) := by decide +kernel
theorem dX10_batch_146 : decode cX10_batch 146 = .ok (.getfield 26, 3) := by decide +kernel
theorem dX10_batch_149 : decode cX10_batch 149 = .ok (.iload_n 1, 1) := by decide +kernel
theorem dX10_batch_150 : decode cX10_batch 150 = .ok (.iload_n 2, 1) := by decide +kernel
theorem dX10_batch_151 : decode cX10_batch 151 = .ok (.iastore, 1) := by decide +kernel
theorem dX10_batch_152 : decode cX10_batch 152 = .ok (.aload_n 0, 1) := by decide +kernel
theorem dX10_batch_153 : decode cX10_batch 153 = .ok (.getfield 26, 3) := by decide +kernel
theorem dX10_batch_156 : decode cX10_batch 156 = .ok (.iload_n 1, 1) := by decide +kernel
theorem dX10_batch_157 : decode cX10_batch 157 = .ok (.iconst 1, 1) := by decide +kernel
theorem dX10_batch_158 : decode cX10_batch 158 = .ok (.iadd, 1) := by decide +kernel
theorem dX10_batch_159 : decode cX10_batch 159 = .ok (.aload_n 0, 1) := by decide +kernel
theorem dX10_batch_160 : decode cX10_batch 160 = .ok (.getfield 26, 3) := by decide +kernel
theorem dX10_batch_163 : decode cX10_batch 163 = .ok (.bipush 13, 2) := by decide +kernel
theorem dX10_batch_165 : decode cX10_batch 165 = .ok (.iaload, 1) := by decide +kernel
theorem dX10_batch_166 : decode cX10_batch 166 = .ok (.iastore, 1) := by decide +kernel
theorem dX10_batch_167 : decode cX10_batch 167 = .ok (.aload_n 0, 1) := by decide +kernel
theorem dX10_batch_168 : decode cX10_batch 168 = .ok (.invokevirtual 209, 3) := by decide +kernel
theorem dX10_batch_171 : decode cX10_batch 171 = .ok (.istore 4, 2) := by decide +kernel
theorem dX10_batch_173 : decode cX10_batch 173 = .ok (.iload 4, 2) := by decide +kernel
theorem dX10_batch_175 : decode cX10_batch 175 = .ok (.iconst (-1), 1) := by decide +kernel
theorem dX10_batch_176 : decode cX10_batch 176 = .ok (.if_icmp .eq 25, 3) := by decide +kernel
theorem dX10_batch_179 : decode cX10_batch 179 = .ok (.aload_n 0, 1) := by decide +kernel
theorem dX10_batch_180 : decode cX10_batch 180 = .ok (.invokevirtual 103, 3) := by decide +kernel
theorem dX10_batch_183 : decode cX10_batch 183 = .ok (.ifCond .ne 18, 3) := by decide +kernel
theorem dX10_batch_186 : decode cX10_batch 186 = .ok (.aload_n 0, 1) := by decide +kernel
theorem dX10_batch_187 : decode cX10_batch 187 = .ok (.iload 4, 2) := by decide +kernel
theorem dX10_batch_189 : decode cX10_batch 189 = .ok (.invokevirtual 212, 3) := by decide +kernel
theorem dX10_batch_192 : decode cX10_batch 192 = .ok (.aload_n 0, 1) := by decide +kernel
theorem dX10_batch_193 : decode cX10_batch 193 = .ok (.invokevirtual 209, 3) := by decide +kernel
theorem dX10_batch_196 : decode cX10_batch 196 = .ok (.istore 4, 2) := by decide +kernel
theorem dX10_batch_198 : decode cX10_batch 198 = .ok (.goto (-25), 3) := by decide +kernel
theorem dX10_batch_201 : decode cX10_batch 201 = .ok (.aload_n 0, 1) := by decide +kernel
theorem dX10_batch_202 : decode cX10_batch 202 = .ok (.getfield 26, 3) := by decide +kernel
theorem dX10_batch_205 : decode cX10_batch 205 = .ok (.iload_n 1, 1) := by decide +kernel
theorem dX10_batch_206 : decode cX10_batch 206 = .ok (.iconst 2, 1) := by decide +kernel
theorem dX10_batch_207 : decode cX10_batch 207 = .ok (.iadd, 1) := by decide +kernel
theorem dX10_batch_208 : decode cX10_batch 208 = .ok (.aload_n 0, 1) := by decide +kernel
theorem dX10_batch_209 : decode cX10_batch 209 = .ok (.getfield 26, 3) := by decide +kernel
theorem dX10_batch_212 : decode cX10_batch 212 = .ok (.bipush 13, 2) := by decide +kernel
theorem dX10_batch_214 : decode cX10_batch 214 = .ok (.iaload, 1) := by decide +kernel
theorem dX10_batch_215 : decode cX10_batch 215 = .ok (.aload_n 0, 1) := by decide +kernel
theorem dX10_batch_216 : decode cX10_batch 216 = .ok (.getfield 26, 3) := by decide +kernel
theorem dX10_batch_219 : decode cX10_batch 219 = .ok (.iload_n 1, 1) := by decide +kernel
theorem dX10_batch_220 : decode cX10_batch 220 = .ok (.iconst 1, 1) := by decide +kernel
theorem dX10_batch_221 : decode cX10_batch 221 = .ok (.iadd, 1) := by decide +kernel
theorem dX10_batch_222 : decode cX10_batch 222 = .ok (.iaload, 1) := by decide +kernel
theorem dX10_batch_223 : decode cX10_batch 223 = .ok (.isub, 1) := by decide +kernel
theorem dX10_batch_224 : decode cX10_batch 224 = .ok (.iastore, 1) := by decide +kernel
theorem dX10_batch_225 : decode cX10_batch 225 = .ok (.aload_n 0, 1) := by decide +kernel
theorem dX10_batch_226 : decode cX10_batch 226 = .ok (.aload_n 0, 1) := by decide +kernel
theorem dX10_batch_227 : decode cX10_batch 227 = .ok (.ldc 215, 2) := by decide +kernel
theorem dX10_batch_229 : decode cX10_batch 229 = .ok (.invokevirtual 130, 3) := by decide +kernel
theorem dX10_batch_232 : decode cX10_batch 232 = .ok (.invokevirtual 133, 3) := by decide +kernel
theorem dX10_batch_235 : decode cX10_batch 235 = .ok (.aload_n 0, 1) := by decide +kernel
theorem dX10_batch_236 : decode cX10_batch 236 = .ok (.aload_n 0, 1) := by decide +kernel
theorem dX10_batch_237 : decode cX10_batch 237 = .ok (.bipush 59, 2) := by decide +kernel
theorem dX10_batch_239 : decode cX10_batch 239 = .ok (.invokevirtual 145, 3) := by decide +kernel
theorem dX10_batch_242 : decode cX10_batch 242 = .ok (.invokevirtual 133, 3) := by decide +kernel
theorem dX10_batch_245 : decode cX10_batch 245 = .ok (.aload_n 0, 1) := by decide +kernel
theorem dX10_batch_246 : decode cX10_batch 246 = .ok (.getfield 26, 3) := by decide +kernel
theorem dX10_batch_249 : decode cX10_batch 249 = .ok (.bipush 12, 2) := by decide +kernel
theorem dX10_batch_251 : decode cX10_batch 251 = .ok (.dup2, 1) := by decide +kernel
theorem dX10_batch_252 : decode cX10_batch 252 = .ok (.iaload, 1) := by decide +kernel
theorem dX10_batch_253 : decode cX10_batch 253 = .ok (.iconst 1, 1) := by decide +kernel
theorem dX10_batch_254 : decode cX10_batch 254 = .ok (.iadd, 1) := by decide +kernel
theorem dX10_batch_255 : decode cX10_batch 255 = .ok (.iastore, 1) := by decide +kernel
theorem dX10_batch_256 : decode cX10_batch 256 = .ok (.return_, 1) := by decide +kernel
theorem dX10_load_0 : decode cX10_load 0 = .ok (.aload_n 0, 1) := by decide +kernel
theorem dX10_load_1 : decode cX10_load 1 = .ok (.iconst 0, 1) := by decide +kernel
theorem dX10_load_2 : decode cX10_load 2 = .ok (.putfield 60, 3) := by decide +kernel
theorem dX10_load_5 : decode cX10_load 5 = .ok (.aload_n 0, 1) := by decide +kernel
theorem dX10_load_6 : decode cX10_load 6 = .ok (.aload_n 0, 1) := by decide +kernel
theorem dX10_load_7 : decode cX10_load 7 = .ok (.getfield 63, 3) := by decide +kernel
theorem dX10_load_10 : decode cX10_load 10 = .ok (.putfield 74, 3) := by decide +kernel
theorem dX10_load_13 : decode cX10_load 13 = .ok (.aload_n 0, 1) := by decide +kernel
theorem dX10_load_14 : decode cX10_load 14 = .ok (.iconst 0, 1) := by decide +kernel
theorem dX10_load_15 : decode cX10_load 15 = .ok (.putfield 63, 3) := by decide +kernel
theorem dX10_load_18 : decode cX10_load 18 = .ok (.aload_n 0, 1) := by decide +kernel
theorem dX10_load_19 : decode cX10_load 19 = .ok (.iconst 0, 1) := by decide +kernel
theorem dX10_load_20 : decode cX10_load 20 = .ok (.putfield 77, 3) := by decide +kernel
theorem dX10_load_23 : decode cX10_load 23 = .ok (.aload_n 0, 1) := by decide +kernel
theorem dX10_load_24 : decode cX10_load 24 = .ok (.iconst 0, 1) := by decide +kernel
theorem dX10_load_25 : decode cX10_load 25 = .ok (.putfield 100, 3) := by decide +kernel
theorem dX10_load_28 : decode cX10_load 28 = .ok (.aload_n 0, 1) := by decide +kernel
theorem dX10_load_29 : decode cX10_load 29 = .ok (.iconst (-1), 1) := by decide +kernel
theorem dX10_load_30 : decode cX10_load 30 = .ok (.putfield 32, 3) := by decide +kernel
theorem dX10_load_33 : decode cX10_load 33 = .ok (.aload_n 0, 1) := by decide +kernel
theorem dX10_load_34 : decode cX10_load 34 = .ok (.invokevirtual 54, 3) := by decide +kernel
theorem dX10_load_37 : decode cX10_load 37 = .ok (.aload_n 0, 1) := by decide +kernel
theorem dX10_load_38 : decode cX10_load 38 = .ok (.invokevirtual 121, 3) := by decide +kernel
theorem dX10_load_41 : decode cX10_load 41 = .ok (.aload_n 0, 1) := by decide +kernel
theorem dX10_load_42 : decode cX10_load 42 = .ok (.invokevirtual 217, 3) := by decide +kernel
theorem dX10_load_45 : decode cX10_load 45 = .ok (.aload_n 0, 1) := by decide +kernel
theorem dX10_load_46 : decode cX10_load 46 = .ok (.invokevirtual 220, 3) := by decide +kernel
theorem dX10_load_49 : decode cX10_load 49 = .ok (.aload_n 0, 1) := by decide +kernel
theorem dX10_load_50 : decode cX10_load 50 = .ok (.ldc 223, 2) := by decide +kernel
theorem dX10_load_52 : decode cX10_load 52 = .ok (.invokevirtual 117, 3) := by decide +kernel
theorem dX10_load_55 : decode cX10_load 55 = .ok (.ifCond .eq 10, 3) := by decide +kernel
theorem dX10_load_58 : decode cX10_load 58 = .ok (.aload_n 0, 1) := by decide +kernel
theorem dX10_load_59 : decode cX10_load 59 = .ok (.invokevirtual 225, 3) := by decide +kernel
theorem dX10_load_62 : decode cX10_load 62 = .ok (.goto (-13), 3) := by decide +kernel
theorem dX10_load_65 : decode cX10_load 65 = .ok (.aload_n 0, 1) := by decide +kernel
theorem dX10_load_66 : decode cX10_load 66 = .ok (.invokevirtual 103, 3) := by decide +kernel
theorem dX10_load_69 : decode cX10_load 69 = .ok (.ifCond .ne 15, 3) := by decide +kernel
theorem dX10_load_72 : decode cX10_load 72 = .ok (.aload_n 0, 1) := by decide +kernel
theorem dX10_load_73 : decode cX10_load 73 = .ok (.getfield 87, 3) := by decide +kernel
theorem dX10_load_76 : decode cX10_load 76 = .ok (.ifCond .eq 8, 3) := by decide +kernel
theorem dX10_load_79 : decode cX10_load 79 = .ok (.aload_n 0, 1) := by decide +kernel
theorem dX10_load_80 : decode cX10_load 80 = .ok (.iconst 1, 1) := by decide +kernel
theorem dX10_load_81 : decode cX10_load 81 = .ok (.invokevirtual 124, 3) := by decide +kernel
theorem dX10_load_84 : decode cX10_load 84 = .ok (.aload_n 0, 1) := by decide +kernel
theorem dX10_load_85 : decode cX10_load 85 = .ok (.aload_n 0, 1) := by decide +kernel
theorem dX10_load_86 : decode cX10_load 86 = .ok (.invokevirtual 103, 3) := by decide +kernel
theorem dX10_load_89 : decode cX10_load 89 = .ok (.ifCond .ne 7, 3) := by decide +kernel
theorem dX10_load_92 : decode cX10_load 92 = .ok (.iconst 1, 1) := by decide +kernel
theorem dX10_load_93 : decode cX10_load 93 = .ok (.goto 4, 3) := by decide +kernel
theorem dX10_load_96 : decode cX10_load 96 = .ok (.iconst 0, 1) := by decide +kernel
theorem dX10_load_97 : decode cX10_load 97 = .ok (.iconst 1, 1) := by decide +kernel
theorem dX10_load_98 : decode cX10_load 98 = .ok (.invokevirtual 66, 3) := by decide +kernel
theorem dX10_load_101 : decode cX10_load 101 = .ok (.ifCond .ne 5, 3) := by decide +kernel
theorem dX10_load_104 : decode cX10_load 104 = .ok (.iconst 0, 1) := by decide +kernel
theorem dX10_load_105 : decode cX10_load 105 = .ok (.ireturn, 1) := by decide +kernel
theorem dX10_load_106 : decode cX10_load 106 = .ok (.aload_n 0, 1) := by decide +kernel
theorem dX10_load_107 : decode cX10_load 107 = .ok (.invokevirtual 57, 3) := by decide +kernel
theorem dX10_load_110 : decode cX10_load 110 = .ok (.aload_n 0, 1) := by decide +kernel
theorem dX10_load_111 : decode cX10_load 111 = .ok (.getfield 23, 3) := by decide +kernel
theorem dX10_load_114 : decode cX10_load 114 = .ok (.bipush 12, 2) := by decide +kernel
theorem dX10_load_116 : decode cX10_load 116 = .ok (.iaload, 1) := by decide +kernel
theorem dX10_load_117 : decode cX10_load 117 = .ok (.ireturn, 1) := by decide +kernel
theorem dX10_errorCode_0 : decode cX10_errorCode 0 = .ok (.aload_n 0, 1) := by decide +kernel
theorem dX10_errorCode_1 : decode cX10_errorCode 1 = .ok (.iconst 0, 1) := by decide +kernel
theorem dX10_errorCode_2 : decode cX10_errorCode 2 = .ok (.putfield 60, 3) := by decide +kernel
theorem dX10_errorCode_5 : decode cX10_errorCode 5 = .ok (.aload_n 0, 1) := by decide +kernel
theorem dX10_errorCode_6 : decode cX10_errorCode 6 = .ok (.getfield 100, 3) := by decide +kernel
theorem dX10_errorCode_9 : decode cX10_errorCode 9 = .ok (.ireturn, 1) := by decide +kernel
theorem dX10_errorPosition_0 : decode cX10_errorPosition 0 = .ok (.aload_n 0, 1) := by decide +kernel
theorem dX10_errorPosition_1 : decode cX10_errorPosition 1 = .ok (.iconst 0, 1) := by decide +kernel
theorem dX10_errorPosition_2 : decode cX10_errorPosition 2 = .ok (.putfield 60, 3) := by decide +kernel
theorem dX10_errorPosition_5 : decode cX10_errorPosition 5 = .ok (.aload_n 0, 1) := by decide +kernel
theorem dX10_errorPosition_6 : decode cX10_errorPosition 6 = .ok (.getfield 32, 3) := by decide +kernel
theorem dX10_errorPosition_9 : decode cX10_errorPosition 9 = .ok (.ireturn, 1) := by decide +kernel
theorem dX10_isBatch_0 : decode cX10_isBatch 0 = .ok (.iload_n 1, 1) := by decide +kernel
theorem dX10_isBatch_1 : decode cX10_isBatch 1 = .ok (.iconst 0, 1) := by decide +kernel
theorem dX10_isBatch_2 : decode cX10_isBatch 2 = .ok (.aload_n 0, 1) := by decide +kernel
theorem dX10_isBatch_3 : decode cX10_isBatch 3 = .ok (.getfield 23, 3) := by decide +kernel
theorem dX10_isBatch_6 : decode cX10_isBatch 6 = .ok (.bipush 12, 2) := by decide +kernel
theorem dX10_isBatch_8 : decode cX10_isBatch 8 = .ok (.iaload, 1) := by decide +kernel
theorem dX10_isBatch_9 : decode cX10_isBatch 9 = .ok (.iconst 1, 1) := by decide +kernel
theorem dX10_isBatch_10 : decode cX10_isBatch 10 = .ok (.isub, 1) := by decide +kernel
theorem dX10_isBatch_11 : decode cX10_isBatch 11 = .ok (.invokestatic 70, 3) := by decide +kernel
theorem dX10_isBatch_14 : decode cX10_isBatch 14 = .ok (.ireturn, 1) := by decide +kernel
theorem dX10_isBank_0 : decode cX10_isBank 0 = .ok (.iload_n 1, 1) := by decide +kernel
theorem dX10_isBank_1 : decode cX10_isBank 1 = .ok (.iconst 0, 1) := by decide +kernel
theorem dX10_isBank_2 : decode cX10_isBank 2 = .ok (.aload_n 0, 1) := by decide +kernel
theorem dX10_isBank_3 : decode cX10_isBank 3 = .ok (.getfield 23, 3) := by decide +kernel
theorem dX10_isBank_6 : decode cX10_isBank 6 = .ok (.iconst 0, 1) := by decide +kernel
theorem dX10_isBank_7 : decode cX10_isBank 7 = .ok (.iaload, 1) := by decide +kernel
theorem dX10_isBank_8 : decode cX10_isBank 8 = .ok (.iconst 1, 1) := by decide +kernel
theorem dX10_isBank_9 : decode cX10_isBank 9 = .ok (.isub, 1) := by decide +kernel
theorem dX10_isBank_10 : decode cX10_isBank 10 = .ok (.invokestatic 70, 3) := by decide +kernel
theorem dX10_isBank_13 : decode cX10_isBank 13 = .ok (.ireturn, 1) := by decide +kernel
theorem dX10_isRow_0 : decode cX10_isRow 0 = .ok (.aload_n 0, 1) := by decide +kernel
theorem dX10_isRow_1 : decode cX10_isRow 1 = .ok (.iload_n 1, 1) := by decide +kernel
theorem dX10_isRow_2 : decode cX10_isRow 2 = .ok (.invokevirtual 227, 3) := by decide +kernel
theorem dX10_isRow_5 : decode cX10_isRow 5 = .ok (.ifCond .eq 23, 3) := by decide +kernel
theorem dX10_isRow_8 : decode cX10_isRow 8 = .ok (.iload_n 2, 1) := by decide +kernel
theorem dX10_isRow_9 : decode cX10_isRow 9 = .ok (.iconst 0, 1) := by decide +kernel
theorem dX10_isRow_10 : decode cX10_isRow 10 = .ok (.aload_n 0, 1) := by decide +kernel
theorem dX10_isRow_11 : decode cX10_isRow 11 = .ok (.getfield 23, 3) := by decide +kernel
theorem dX10_isRow_14 : decode cX10_isRow 14 = .ok (.iconst 1, 1) := by decide +kernel
theorem dX10_isRow_15 : decode cX10_isRow 15 = .ok (.iaload, 1) := by decide +kernel
theorem dX10_isRow_16 : decode cX10_isRow 16 = .ok (.iconst 1, 1) := by decide +kernel
theorem dX10_isRow_17 : decode cX10_isRow 17 = .ok (.isub, 1) := by decide +kernel
theorem dX10_isRow_18 : decode cX10_isRow 18 = .ok (.invokestatic 70, 3) := by decide +kernel
theorem dX10_isRow_21 : decode cX10_isRow 21 = .ok (.ifCond .eq 7, 3) := by decide +kernel
theorem dX10_isRow_24 : decode cX10_isRow 24 = .ok (.iconst 1, 1) := by decide +kernel
theorem dX10_isRow_25 : decode cX10_isRow 25 = .ok (.goto 4, 3) := by decide +kernel
theorem dX10_isRow_28 : decode cX10_isRow 28 = .ok (.iconst 0, 1) := by decide +kernel
theorem dX10_isRow_29 : decode cX10_isRow 29 = .ok (.ireturn, 1) := by decide +kernel
theorem dX10_isColumn_0 : decode cX10_isColumn 0 = .ok (.iload_n 1, 1) := by decide +kernel
theorem dX10_isColumn_1 : decode cX10_isColumn 1 = .ok (.iconst 0, 1) := by decide +kernel
theorem dX10_isColumn_2 : decode cX10_isColumn 2 = .ok (.aload_n 0, 1) := by decide +kernel
theorem dX10_isColumn_3 : decode cX10_isColumn 3 = .ok (.getfield 23, 3) := by decide +kernel
theorem dX10_isColumn_6 : decode cX10_isColumn 6 = .ok (.iconst 2, 1) := by decide +kernel
theorem dX10_isColumn_7 : decode cX10_isColumn 7 = .ok (.iaload, 1) := by decide +kernel
theorem dX10_isColumn_8 : decode cX10_isColumn 8 = .ok (.iconst 1, 1) := by decide +kernel
theorem dX10_isColumn_9 : decode cX10_isColumn 9 = .ok (.isub, 1) := by decide +kernel
theorem dX10_isColumn_10 : decode cX10_isColumn 10 = .ok (.invokestatic 70, 3) := by decide +kernel
theorem dX10_isColumn_13 : decode cX10_isColumn 13 = .ok (.ireturn, 1) := by decide +kernel
theorem dX10_banksOf_0 : decode cX10_banksOf 0 = .ok (.aload_n 0, 1) := by decide +kernel
theorem dX10_banksOf_1 : decode cX10_banksOf 1 = .ok (.getfield 23, 3) := by decide +kernel
theorem dX10_banksOf_4 : decode cX10_banksOf 4 = .ok (.bipush 14, 2) := by decide +kernel
theorem dX10_banksOf_6 : decode cX10_banksOf 6 = .ok (.iconst 3, 1) := by decide +kernel
theorem dX10_banksOf_7 : decode cX10_banksOf 7 = .ok (.iload_n 1, 1) := by decide +kernel
theorem dX10_banksOf_8 : decode cX10_banksOf 8 = .ok (.imul, 1) := by decide +kernel
theorem dX10_banksOf_9 : decode cX10_banksOf 9 = .ok (.iadd, 1) := by decide +kernel
theorem dX10_banksOf_10 : decode cX10_banksOf 10 = .ok (.iaload, 1) := by decide +kernel
theorem dX10_banksOf_11 : decode cX10_banksOf 11 = .ok (.ireturn, 1) := by decide +kernel
theorem dX10_firstOf_0 : decode cX10_firstOf 0 = .ok (.aload_n 0, 1) := by decide +kernel
theorem dX10_firstOf_1 : decode cX10_firstOf 1 = .ok (.getfield 23, 3) := by decide +kernel
theorem dX10_firstOf_4 : decode cX10_firstOf 4 = .ok (.bipush 14, 2) := by decide +kernel
theorem dX10_firstOf_6 : decode cX10_firstOf 6 = .ok (.iconst 3, 1) := by decide +kernel
theorem dX10_firstOf_7 : decode cX10_firstOf 7 = .ok (.iload_n 1, 1) := by decide +kernel
theorem dX10_firstOf_8 : decode cX10_firstOf 8 = .ok (.imul, 1) := by decide +kernel
theorem dX10_firstOf_9 : decode cX10_firstOf 9 = .ok (.iadd, 1) := by decide +kernel
theorem dX10_firstOf_10 : decode cX10_firstOf 10 = .ok (.iconst 1, 1) := by decide +kernel
theorem dX10_firstOf_11 : decode cX10_firstOf 11 = .ok (.iadd, 1) := by decide +kernel
theorem dX10_firstOf_12 : decode cX10_firstOf 12 = .ok (.iaload, 1) := by decide +kernel
theorem dX10_firstOf_13 : decode cX10_firstOf 13 = .ok (.ireturn, 1) := by decide +kernel
theorem dX10_endOf_0 : decode cX10_endOf 0 = .ok (.aload_n 0, 1) := by decide +kernel
theorem dX10_endOf_1 : decode cX10_endOf 1 = .ok (.iload_n 1, 1) := by decide +kernel
theorem dX10_endOf_2 : decode cX10_endOf 2 = .ok (.invokevirtual 230, 3) := by decide +kernel
theorem dX10_endOf_5 : decode cX10_endOf 5 = .ok (.aload_n 0, 1) := by decide +kernel
theorem dX10_endOf_6 : decode cX10_endOf 6 = .ok (.getfield 23, 3) := by decide +kernel
theorem dX10_endOf_9 : decode cX10_endOf 9 = .ok (.bipush 14, 2) := by decide +kernel
theorem dX10_endOf_11 : decode cX10_endOf 11 = .ok (.iconst 3, 1) := by decide +kernel
theorem dX10_endOf_12 : decode cX10_endOf 12 = .ok (.iload_n 1, 1) := by decide +kernel
theorem dX10_endOf_13 : decode cX10_endOf 13 = .ok (.imul, 1) := by decide +kernel
theorem dX10_endOf_14 : decode cX10_endOf 14 = .ok (.iadd, 1) := by decide +kernel
theorem dX10_endOf_15 : decode cX10_endOf 15 = .ok (.iconst 2, 1) := by decide +kernel
theorem dX10_endOf_16 : decode cX10_endOf 16 = .ok (.iadd, 1) := by decide +kernel
theorem dX10_endOf_17 : decode cX10_endOf 17 = .ok (.iaload, 1) := by decide +kernel
theorem dX10_endOf_18 : decode cX10_endOf 18 = .ok (.iadd, 1) := by decide +kernel
theorem dX10_endOf_19 : decode cX10_endOf 19 = .ok (.ireturn, 1) := by decide +kernel
theorem dX10_told_0 : decode cX10_told 0 = .ok (.aload_n 0, 1) := by decide +kernel
theorem dX10_told_1 : decode cX10_told 1 = .ok (.getfield 23, 3) := by decide +kernel
theorem dX10_told_4 : decode cX10_told 4 = .ok (.bipush 50, 2) := by decide +kernel
theorem dX10_told_6 : decode cX10_told 6 = .ok (.iconst 4, 1) := by decide +kernel
theorem dX10_told_7 : decode cX10_told 7 = .ok (.iload_n 1, 1) := by decide +kernel
theorem dX10_told_8 : decode cX10_told 8 = .ok (.imul, 1) := by decide +kernel
theorem dX10_told_9 : decode cX10_told 9 = .ok (.iadd, 1) := by decide +kernel
theorem dX10_told_10 : decode cX10_told 10 = .ok (.iload_n 2, 1) := by decide +kernel
theorem dX10_told_11 : decode cX10_told 11 = .ok (.iadd, 1) := by decide +kernel
theorem dX10_told_12 : decode cX10_told 12 = .ok (.iaload, 1) := by decide +kernel
theorem dX10_told_13 : decode cX10_told 13 = .ok (.ireturn, 1) := by decide +kernel
theorem dX10_kindOf_0 : decode cX10_kindOf 0 = .ok (.aload_n 0, 1) := by decide +kernel
theorem dX10_kindOf_1 : decode cX10_kindOf 1 = .ok (.iload_n 1, 1) := by decide +kernel
theorem dX10_kindOf_2 : decode cX10_kindOf 2 = .ok (.iconst 0, 1) := by decide +kernel
theorem dX10_kindOf_3 : decode cX10_kindOf 3 = .ok (.invokevirtual 233, 3) := by decide +kernel
theorem dX10_kindOf_6 : decode cX10_kindOf 6 = .ok (.bipush 8, 2) := by decide +kernel
theorem dX10_kindOf_8 : decode cX10_kindOf 8 = .ok (.irem, 1) := by decide +kernel
theorem dX10_kindOf_9 : decode cX10_kindOf 9 = .ok (.ireturn, 1) := by decide +kernel
theorem dX10_wayOf_0 : decode cX10_wayOf 0 = .ok (.aload_n 0, 1) := by decide +kernel
theorem dX10_wayOf_1 : decode cX10_wayOf 1 = .ok (.iload_n 1, 1) := by decide +kernel
theorem dX10_wayOf_2 : decode cX10_wayOf 2 = .ok (.iconst 0, 1) := by decide +kernel
theorem dX10_wayOf_3 : decode cX10_wayOf 3 = .ok (.invokevirtual 233, 3) := by decide +kernel
theorem dX10_wayOf_6 : decode cX10_wayOf 6 = .ok (.bipush 8, 2) := by decide +kernel
theorem dX10_wayOf_8 : decode cX10_wayOf 8 = .ok (.idiv, 1) := by decide +kernel
theorem dX10_wayOf_9 : decode cX10_wayOf 9 = .ok (.ireturn, 1) := by decide +kernel
theorem dX10_count_0 : decode cX10_count 0 = .ok (.aload_n 0, 1) := by decide +kernel
theorem dX10_count_1 : decode cX10_count 1 = .ok (.iconst 0, 1) := by decide +kernel
theorem dX10_count_2 : decode cX10_count 2 = .ok (.putfield 60, 3) := by decide +kernel
theorem dX10_count_5 : decode cX10_count 5 = .ok (.aload_n 0, 1) := by decide +kernel
theorem dX10_count_6 : decode cX10_count 6 = .ok (.iload_n 1, 1) := by decide +kernel
theorem dX10_count_7 : decode cX10_count 7 = .ok (.iconst 0, 1) := by decide +kernel
theorem dX10_count_8 : decode cX10_count 8 = .ok (.bipush 6, 2) := by decide +kernel
theorem dX10_count_10 : decode cX10_count 10 = .ok (.invokestatic 70, 3) := by decide +kernel
theorem dX10_count_13 : decode cX10_count 13 = .ok (.iconst 1, 1) := by decide +kernel
theorem dX10_count_14 : decode cX10_count 14 = .ok (.invokevirtual 66, 3) := by decide +kernel
theorem dX10_count_17 : decode cX10_count 17 = .ok (.ifCond .ne 5, 3) := by decide +kernel
theorem dX10_count_20 : decode cX10_count 20 = .ok (.iconst 0, 1) := by decide +kernel
theorem dX10_count_21 : decode cX10_count 21 = .ok (.ireturn, 1) := by decide +kernel
theorem dX10_count_22 : decode cX10_count 22 = .ok (.iload_n 1, 1) := by decide +kernel
theorem dX10_count_23 : decode cX10_count 23 = .ok (.iconst 3, 1) := by decide +kernel
theorem dX10_count_24 : decode cX10_count 24 = .ok (.if_icmp .ge 14, 3) := by decide +kernel
theorem dX10_count_27 : decode cX10_count 27 = .ok (.aload_n 0, 1) := by decide +kernel
theorem dX10_count_28 : decode cX10_count 28 = .ok (.getfield 23, 3) := by decide +kernel
theorem dX10_count_31 : decode cX10_count 31 = .ok (.iconst 0, 1) := by decide +kernel
theorem dX10_count_32 : decode cX10_count 32 = .ok (.iload_n 1, 1) := by decide +kernel
theorem dX10_count_33 : decode cX10_count 33 = .ok (.iadd, 1) := by decide +kernel
theorem dX10_count_34 : decode cX10_count 34 = .ok (.iaload, 1) := by decide +kernel
theorem dX10_count_35 : decode cX10_count 35 = .ok (.goto 58, 3) := by decide +kernel
theorem dX10_count_38 : decode cX10_count 38 = .ok (.iload_n 1, 1) := by decide +kernel
theorem dX10_count_39 : decode cX10_count 39 = .ok (.iconst 3, 1) := by decide +kernel
theorem dX10_count_40 : decode cX10_count 40 = .ok (.if_icmp .ne 13, 3) := by decide +kernel
theorem dX10_count_43 : decode cX10_count 43 = .ok (.aload_n 0, 1) := by decide +kernel
theorem dX10_count_44 : decode cX10_count 44 = .ok (.getfield 23, 3) := by decide +kernel
theorem dX10_count_47 : decode cX10_count 47 = .ok (.bipush 12, 2) := by decide +kernel
theorem dX10_count_49 : decode cX10_count 49 = .ok (.iaload, 1) := by decide +kernel
theorem dX10_count_50 : decode cX10_count 50 = .ok (.goto 43, 3) := by decide +kernel
theorem dX10_count_53 : decode cX10_count 53 = .ok (.iload_n 1, 1) := by decide +kernel
theorem dX10_count_54 : decode cX10_count 54 = .ok (.iconst 4, 1) := by decide +kernel
theorem dX10_count_55 : decode cX10_count 55 = .ok (.if_icmp .ne 14, 3) := by decide +kernel
theorem dX10_count_58 : decode cX10_count 58 = .ok (.aload_n 0, 1) := by decide +kernel
theorem dX10_count_59 : decode cX10_count 59 = .ok (.getfield 9, 3) := by decide +kernel
theorem dX10_count_62 : decode cX10_count 62 = .ok (.sipush 1440, 3) := by decide +kernel
theorem dX10_count_65 : decode cX10_count 65 = .ok (.iaload, 1) := by decide +kernel
theorem dX10_count_66 : decode cX10_count 66 = .ok (.goto 27, 3) := by decide +kernel
theorem dX10_count_69 : decode cX10_count 69 = .ok (.iload_n 1, 1) := by decide +kernel
theorem dX10_count_70 : decode cX10_count 70 = .ok (.iconst 5, 1) := by decide +kernel
theorem dX10_count_71 : decode cX10_count 71 = .ok (.if_icmp .ne 14, 3) := by decide +kernel
theorem dX10_count_74 : decode cX10_count 74 = .ok (.aload_n 0, 1) := by decide +kernel
theorem dX10_count_75 : decode cX10_count 75 = .ok (.getfield 9, 3) := by decide +kernel
theorem dX10_count_78 : decode cX10_count 78 = .ok (.sipush 1457, 3) := by decide +kernel
theorem dX10_count_81 : decode cX10_count 81 = .ok (.iaload, 1) := by decide +kernel
theorem dX10_count_82 : decode cX10_count 82 = .ok (.goto 11, 3) := by decide +kernel
theorem dX10_count_85 : decode cX10_count 85 = .ok (.aload_n 0, 1) := by decide +kernel
theorem dX10_count_86 : decode cX10_count 86 = .ok (.getfield 9, 3) := by decide +kernel
theorem dX10_count_89 : decode cX10_count 89 = .ok (.sipush 1578, 3) := by decide +kernel
theorem dX10_count_92 : decode cX10_count 92 = .ok (.iaload, 1) := by decide +kernel
theorem dX10_count_93 : decode cX10_count 93 = .ok (.ireturn, 1) := by decide +kernel
theorem dX10_commands_0 : decode cX10_commands 0 = .ok (.aload_n 0, 1) := by decide +kernel
theorem dX10_commands_1 : decode cX10_commands 1 = .ok (.iconst 0, 1) := by decide +kernel
theorem dX10_commands_2 : decode cX10_commands 2 = .ok (.putfield 60, 3) := by decide +kernel
theorem dX10_commands_5 : decode cX10_commands 5 = .ok (.aload_n 0, 1) := by decide +kernel
theorem dX10_commands_6 : decode cX10_commands 6 = .ok (.aload_n 0, 1) := by decide +kernel
theorem dX10_commands_7 : decode cX10_commands 7 = .ok (.iload_n 1, 1) := by decide +kernel
theorem dX10_commands_8 : decode cX10_commands 8 = .ok (.invokevirtual 235, 3) := by decide +kernel
theorem dX10_commands_11 : decode cX10_commands 11 = .ok (.iconst 1, 1) := by decide +kernel
theorem dX10_commands_12 : decode cX10_commands 12 = .ok (.invokevirtual 66, 3) := by decide +kernel
theorem dX10_commands_15 : decode cX10_commands 15 = .ok (.ifCond .eq 19, 3) := by decide +kernel
theorem dX10_commands_18 : decode cX10_commands 18 = .ok (.aload_n 0, 1) := by decide +kernel
theorem dX10_commands_19 : decode cX10_commands 19 = .ok (.getfield 23, 3) := by decide +kernel
theorem dX10_commands_22 : decode cX10_commands 22 = .ok (.bipush 14, 2) := by decide +kernel
theorem dX10_commands_24 : decode cX10_commands 24 = .ok (.iconst 3, 1) := by decide +kernel
theorem dX10_commands_25 : decode cX10_commands 25 = .ok (.iload_n 1, 1) := by decide +kernel
theorem dX10_commands_26 : decode cX10_commands 26 = .ok (.imul, 1) := by decide +kernel
theorem dX10_commands_27 : decode cX10_commands 27 = .ok (.iadd, 1) := by decide +kernel
theorem dX10_commands_28 : decode cX10_commands 28 = .ok (.iconst 2, 1) := by decide +kernel
theorem dX10_commands_29 : decode cX10_commands 29 = .ok (.iadd, 1) := by decide +kernel
theorem dX10_commands_30 : decode cX10_commands 30 = .ok (.iaload, 1) := by decide +kernel
theorem dX10_commands_31 : decode cX10_commands 31 = .ok (.goto 4, 3) := by decide +kernel
theorem dX10_commands_34 : decode cX10_commands 34 = .ok (.iconst 0, 1) := by decide +kernel
theorem dX10_commands_35 : decode cX10_commands 35 = .ok (.ireturn, 1) := by decide +kernel
theorem dX10_banks_0 : decode cX10_banks 0 = .ok (.aload_n 0, 1) := by decide +kernel
theorem dX10_banks_1 : decode cX10_banks 1 = .ok (.iconst 0, 1) := by decide +kernel
theorem dX10_banks_2 : decode cX10_banks 2 = .ok (.putfield 60, 3) := by decide +kernel
theorem dX10_banks_5 : decode cX10_banks 5 = .ok (.aload_n 0, 1) := by decide +kernel
theorem dX10_banks_6 : decode cX10_banks 6 = .ok (.aload_n 0, 1) := by decide +kernel
theorem dX10_banks_7 : decode cX10_banks 7 = .ok (.iload_n 1, 1) := by decide +kernel
theorem dX10_banks_8 : decode cX10_banks 8 = .ok (.invokevirtual 235, 3) := by decide +kernel
theorem dX10_banks_11 : decode cX10_banks 11 = .ok (.iconst 1, 1) := by decide +kernel
theorem dX10_banks_12 : decode cX10_banks 12 = .ok (.invokevirtual 66, 3) := by decide +kernel
theorem dX10_banks_15 : decode cX10_banks 15 = .ok (.ifCond .eq 11, 3) := by decide +kernel
theorem dX10_banks_18 : decode cX10_banks 18 = .ok (.aload_n 0, 1) := by decide +kernel
theorem dX10_banks_19 : decode cX10_banks 19 = .ok (.iload_n 1, 1) := by decide +kernel
theorem dX10_banks_20 : decode cX10_banks 20 = .ok (.invokevirtual 238, 3) := by decide +kernel
theorem dX10_banks_23 : decode cX10_banks 23 = .ok (.goto 4, 3) := by decide +kernel
theorem dX10_banks_26 : decode cX10_banks 26 = .ok (.iconst 0, 1) := by decide +kernel
theorem dX10_banks_27 : decode cX10_banks 27 = .ok (.ireturn, 1) := by decide +kernel
theorem dX10_word_0 : decode cX10_word 0 = .ok (.sipush 160, 3) := by decide +kernel
theorem dX10_word_3 : decode cX10_word 3 = .ok (.bipush 8, 2) := by decide +kernel
theorem dX10_word_5 : decode cX10_word 5 = .ok (.bipush 16, 2) := by decide +kernel
theorem dX10_word_7 : decode cX10_word 7 = .ok (.iload_n 0, 1) := by decide +kernel
theorem dX10_word_8 : decode cX10_word 8 = .ok (.imul, 1) := by decide +kernel
theorem dX10_word_9 : decode cX10_word 9 = .ok (.iload_n 1, 1) := by decide +kernel
theorem dX10_word_10 : decode cX10_word 10 = .ok (.iadd, 1) := by decide +kernel
theorem dX10_word_11 : decode cX10_word 11 = .ok (.imul, 1) := by decide +kernel
theorem dX10_word_12 : decode cX10_word 12 = .ok (.iadd, 1) := by decide +kernel
theorem dX10_word_13 : decode cX10_word 13 = .ok (.iload_n 2, 1) := by decide +kernel
theorem dX10_word_14 : decode cX10_word 14 = .ok (.iadd, 1) := by decide +kernel
theorem dX10_word_15 : decode cX10_word 15 = .ok (.ireturn, 1) := by decide +kernel
theorem dX10_lane_0 : decode cX10_lane 0 = .ok (.sipush 1184, 3) := by decide +kernel
theorem dX10_lane_3 : decode cX10_lane 3 = .ok (.bipush 8, 2) := by decide +kernel
theorem dX10_lane_5 : decode cX10_lane 5 = .ok (.iconst 4, 1) := by decide +kernel
theorem dX10_lane_6 : decode cX10_lane 6 = .ok (.iload_n 0, 1) := by decide +kernel
theorem dX10_lane_7 : decode cX10_lane 7 = .ok (.imul, 1) := by decide +kernel
theorem dX10_lane_8 : decode cX10_lane 8 = .ok (.iload_n 1, 1) := by decide +kernel
theorem dX10_lane_9 : decode cX10_lane 9 = .ok (.iadd, 1) := by decide +kernel
theorem dX10_lane_10 : decode cX10_lane 10 = .ok (.imul, 1) := by decide +kernel
theorem dX10_lane_11 : decode cX10_lane 11 = .ok (.iadd, 1) := by decide +kernel
theorem dX10_lane_12 : decode cX10_lane 12 = .ok (.iload_n 2, 1) := by decide +kernel
theorem dX10_lane_13 : decode cX10_lane 13 = .ok (.iadd, 1) := by decide +kernel
theorem dX10_lane_14 : decode cX10_lane 14 = .ok (.ireturn, 1) := by decide +kernel
theorem dX10_memory_0 : decode cX10_memory 0 = .ok (.aload_n 0, 1) := by decide +kernel
theorem dX10_memory_1 : decode cX10_memory 1 = .ok (.iconst 0, 1) := by decide +kernel
theorem dX10_memory_2 : decode cX10_memory 2 = .ok (.putfield 60, 3) := by decide +kernel
theorem dX10_memory_5 : decode cX10_memory 5 = .ok (.aload_n 0, 1) := by decide +kernel
theorem dX10_memory_6 : decode cX10_memory 6 = .ok (.aload_n 0, 1) := by decide +kernel
theorem dX10_memory_7 : decode cX10_memory 7 = .ok (.iload_n 1, 1) := by decide +kernel
theorem dX10_memory_8 : decode cX10_memory 8 = .ok (.iload_n 2, 1) := by decide +kernel
theorem dX10_memory_9 : decode cX10_memory 9 = .ok (.invokevirtual 241, 3) := by decide +kernel
theorem dX10_memory_12 : decode cX10_memory 12 = .ok (.ifCond .eq 15, 3) := by decide +kernel
theorem dX10_memory_15 : decode cX10_memory 15 = .ok (.aload_n 0, 1) := by decide +kernel
theorem dX10_memory_16 : decode cX10_memory 16 = .ok (.iload_n 3, 1) := by decide +kernel
theorem dX10_memory_17 : decode cX10_memory 17 = .ok (.invokevirtual 244, 3) := by decide +kernel
theorem dX10_memory_20 : decode cX10_memory 20 = .ok (.ifCond .eq 7, 3) := by decide +kernel
theorem dX10_memory_23 : decode cX10_memory 23 = .ok (.iconst 1, 1) := by decide +kernel
theorem dX10_memory_24 : decode cX10_memory 24 = .ok (.goto 4, 3) := by decide +kernel
theorem dX10_memory_27 : decode cX10_memory 27 = .ok (.iconst 0, 1) := by decide +kernel
theorem dX10_memory_28 : decode cX10_memory 28 = .ok (.iconst 1, 1) := by decide +kernel
theorem dX10_memory_29 : decode cX10_memory 29 = .ok (.invokevirtual 66, 3) := by decide +kernel
theorem dX10_memory_32 : decode cX10_memory 32 = .ok (.ifCond .eq 17, 3) := by decide +kernel
theorem dX10_memory_35 : decode cX10_memory 35 = .ok (.aload_n 0, 1) := by decide +kernel
theorem dX10_memory_36 : decode cX10_memory 36 = .ok (.getfield 9, 3) := by decide +kernel
theorem dX10_memory_39 : decode cX10_memory 39 = .ok (.iload_n 1, 1) := by decide +kernel
theorem dX10_memory_40 : decode cX10_memory 40 = .ok (.iload_n 2, 1) := by decide +kernel
theorem dX10_memory_41 : decode cX10_memory 41 = .ok (.iload_n 3, 1) := by decide +kernel
theorem dX10_memory_42 : decode cX10_memory 42 = .ok (.invokestatic 247, 3) := by decide +kernel
theorem dX10_memory_45 : decode cX10_memory 45 = .ok (.iaload, 1) := by decide +kernel
theorem dX10_memory_46 : decode cX10_memory 46 = .ok (.goto 4, 3) := by decide +kernel
theorem dX10_memory_49 : decode cX10_memory 49 = .ok (.iconst 0, 1) := by decide +kernel
theorem dX10_memory_50 : decode cX10_memory 50 = .ok (.ireturn, 1) := by decide +kernel
theorem dX10_register__0 : decode cX10_register_ 0 = .ok (.aload_n 0, 1) := by decide +kernel
theorem dX10_register__1 : decode cX10_register_ 1 = .ok (.iconst 0, 1) := by decide +kernel
theorem dX10_register__2 : decode cX10_register_ 2 = .ok (.putfield 60, 3) := by decide +kernel
theorem dX10_register__5 : decode cX10_register_ 5 = .ok (.aload_n 0, 1) := by decide +kernel
theorem dX10_register__6 : decode cX10_register_ 6 = .ok (.aload_n 0, 1) := by decide +kernel
theorem dX10_register__7 : decode cX10_register_ 7 = .ok (.iload_n 1, 1) := by decide +kernel
theorem dX10_register__8 : decode cX10_register_ 8 = .ok (.invokevirtual 227, 3) := by decide +kernel
theorem dX10_register__11 : decode cX10_register_ 11 = .ok (.ifCond .eq 24, 3) := by decide +kernel
theorem dX10_register__14 : decode cX10_register_ 14 = .ok (.iload_n 2, 1) := by decide +kernel
theorem dX10_register__15 : decode cX10_register_ 15 = .ok (.iconst 0, 1) := by decide +kernel
theorem dX10_register__16 : decode cX10_register_ 16 = .ok (.iconst 3, 1) := by decide +kernel
theorem dX10_register__17 : decode cX10_register_ 17 = .ok (.invokestatic 70, 3) := by decide +kernel
theorem dX10_register__20 : decode cX10_register_ 20 = .ok (.ifCond .eq 15, 3) := by decide +kernel
theorem dX10_register__23 : decode cX10_register_ 23 = .ok (.aload_n 0, 1) := by decide +kernel
theorem dX10_register__24 : decode cX10_register_ 24 = .ok (.iload_n 3, 1) := by decide +kernel
theorem dX10_register__25 : decode cX10_register_ 25 = .ok (.invokevirtual 244, 3) := by decide +kernel
theorem dX10_register__28 : decode cX10_register_ 28 = .ok (.ifCond .eq 7, 3) := by decide +kernel
theorem dX10_register__31 : decode cX10_register_ 31 = .ok (.iconst 1, 1) := by decide +kernel
theorem dX10_register__32 : decode cX10_register_ 32 = .ok (.goto 4, 3) := by decide +kernel
theorem dX10_register__35 : decode cX10_register_ 35 = .ok (.iconst 0, 1) := by decide +kernel
theorem dX10_register__36 : decode cX10_register_ 36 = .ok (.iconst 1, 1) := by decide +kernel
theorem dX10_register__37 : decode cX10_register_ 37 = .ok (.invokevirtual 66, 3) := by decide +kernel
theorem dX10_register__40 : decode cX10_register_ 40 = .ok (.ifCond .eq 17, 3) := by decide +kernel
theorem dX10_register__43 : decode cX10_register_ 43 = .ok (.aload_n 0, 1) := by decide +kernel
theorem dX10_register__44 : decode cX10_register_ 44 = .ok (.getfield 9, 3) := by decide +kernel
theorem dX10_register__47 : decode cX10_register_ 47 = .ok (.iload_n 1, 1) := by decide +kernel
theorem dX10_register__48 : decode cX10_register_ 48 = .ok (.iload_n 2, 1) := by decide +kernel
theorem dX10_register__49 : decode cX10_register_ 49 = .ok (.iload_n 3, 1) := by decide +kernel
theorem dX10_register__50 : decode cX10_register_ 50 = .ok (.invokestatic 251, 3) := by decide +kernel
theorem dX10_register__53 : decode cX10_register_ 53 = .ok (.iaload, 1) := by decide +kernel
theorem dX10_register__54 : decode cX10_register_ 54 = .ok (.goto 4, 3) := by decide +kernel
theorem dX10_register__57 : decode cX10_register_ 57 = .ok (.iconst 0, 1) := by decide +kernel
theorem dX10_register__58 : decode cX10_register_ 58 = .ok (.ireturn, 1) := by decide +kernel
theorem dX10_joined_0 : decode cX10_joined 0 = .ok (.iload_n 0, 1) := by decide +kernel
theorem dX10_joined_1 : decode cX10_joined 1 = .ok (.tableswitch 85 0 6 #[43, 47, 51, 62, 73, 77, 81], 43) := by decide +kernel
theorem dX10_joined_44 : decode cX10_joined 44 = .ok (.iload_n 1, 1) := by decide +kernel
theorem dX10_joined_45 : decode cX10_joined 45 = .ok (.iload_n 2, 1) := by decide +kernel
theorem dX10_joined_46 : decode cX10_joined 46 = .ok (.iadd, 1) := by decide +kernel
theorem dX10_joined_47 : decode cX10_joined 47 = .ok (.ireturn, 1) := by decide +kernel
theorem dX10_joined_48 : decode cX10_joined 48 = .ok (.iload_n 1, 1) := by decide +kernel
theorem dX10_joined_49 : decode cX10_joined 49 = .ok (.iload_n 2, 1) := by decide +kernel
theorem dX10_joined_50 : decode cX10_joined 50 = .ok (.imul, 1) := by decide +kernel
theorem dX10_joined_51 : decode cX10_joined 51 = .ok (.ireturn, 1) := by decide +kernel
theorem dX10_joined_52 : decode cX10_joined 52 = .ok (.iload_n 1, 1) := by decide +kernel
theorem dX10_joined_53 : decode cX10_joined 53 = .ok (.iload_n 2, 1) := by decide +kernel
theorem dX10_joined_54 : decode cX10_joined 54 = .ok (.if_icmp .ge 7, 3) := by decide +kernel
theorem dX10_joined_57 : decode cX10_joined 57 = .ok (.iload_n 1, 1) := by decide +kernel
theorem dX10_joined_58 : decode cX10_joined 58 = .ok (.goto 4, 3) := by decide +kernel
theorem dX10_joined_61 : decode cX10_joined 61 = .ok (.iload_n 2, 1) := by decide +kernel
theorem dX10_joined_62 : decode cX10_joined 62 = .ok (.ireturn, 1) := by decide +kernel
theorem dX10_joined_63 : decode cX10_joined 63 = .ok (.iload_n 1, 1) := by decide +kernel
theorem dX10_joined_64 : decode cX10_joined 64 = .ok (.iload_n 2, 1) := by decide +kernel
theorem dX10_joined_65 : decode cX10_joined 65 = .ok (.if_icmp .le 7, 3) := by decide +kernel
theorem dX10_joined_68 : decode cX10_joined 68 = .ok (.iload_n 1, 1) := by decide +kernel
theorem dX10_joined_69 : decode cX10_joined 69 = .ok (.goto 4, 3) := by decide +kernel
theorem dX10_joined_72 : decode cX10_joined 72 = .ok (.iload_n 2, 1) := by decide +kernel
theorem dX10_joined_73 : decode cX10_joined 73 = .ok (.ireturn, 1) := by decide +kernel
theorem dX10_joined_74 : decode cX10_joined 74 = .ok (.iload_n 1, 1) := by decide +kernel
theorem dX10_joined_75 : decode cX10_joined 75 = .ok (.iload_n 2, 1) := by decide +kernel
theorem dX10_joined_76 : decode cX10_joined 76 = .ok (.iand, 1) := by decide +kernel
theorem dX10_joined_77 : decode cX10_joined 77 = .ok (.ireturn, 1) := by decide +kernel
theorem dX10_joined_78 : decode cX10_joined 78 = .ok (.iload_n 1, 1) := by decide +kernel
theorem dX10_joined_79 : decode cX10_joined 79 = .ok (.iload_n 2, 1) := by decide +kernel
theorem dX10_joined_80 : decode cX10_joined 80 = .ok (.ior, 1) := by decide +kernel
theorem dX10_joined_81 : decode cX10_joined 81 = .ok (.ireturn, 1) := by decide +kernel
theorem dX10_joined_82 : decode cX10_joined 82 = .ok (.iload_n 1, 1) := by decide +kernel
theorem dX10_joined_83 : decode cX10_joined 83 = .ok (.iload_n 2, 1) := by decide +kernel
theorem dX10_joined_84 : decode cX10_joined 84 = .ok (.ixor, 1) := by decide +kernel
theorem dX10_joined_85 : decode cX10_joined 85 = .ok (.ireturn, 1) := by decide +kernel
theorem dX10_joined_86 : decode cX10_joined 86 = .ok (.iload_n 1, 1) := by decide +kernel
theorem dX10_joined_87 : decode cX10_joined 87 = .ok (.iload_n 2, 1) := by decide +kernel
theorem dX10_joined_88 : decode cX10_joined 88 = .ok (.isub, 1) := by decide +kernel
theorem dX10_joined_89 : decode cX10_joined 89 = .ok (.ireturn, 1) := by decide +kernel
theorem dX10_lowest_0 : decode cX10_lowest 0 = .ok (.iconst 0, 1) := by decide +kernel
theorem dX10_lowest_1 : decode cX10_lowest 1 = .ok (.istore_n 1, 1) := by decide +kernel
theorem dX10_lowest_2 : decode cX10_lowest 2 = .ok (.iload_n 0, 1) := by decide +kernel
theorem dX10_lowest_3 : decode cX10_lowest 3 = .ok (.iload_n 1, 1) := by decide +kernel
theorem dX10_lowest_4 : decode cX10_lowest 4 = .ok (.invokestatic 169, 3) := by decide +kernel
theorem dX10_lowest_7 : decode cX10_lowest 7 = .ok (.ifCond .ne 9, 3) := by decide +kernel
theorem dX10_lowest_10 : decode cX10_lowest 10 = .ok (.iinc 1 1, 3) := by decide +kernel
theorem dX10_lowest_13 : decode cX10_lowest 13 = .ok (.goto (-11), 3) := by decide +kernel
theorem dX10_lowest_16 : decode cX10_lowest 16 = .ok (.iload_n 1, 1) := by decide +kernel
theorem dX10_lowest_17 : decode cX10_lowest 17 = .ok (.ireturn, 1) := by decide +kernel
theorem dX10_values_0 : decode cX10_values 0 = .ok (.aload_n 0, 1) := by decide +kernel
theorem dX10_values_1 : decode cX10_values 1 = .ok (.iload_n 2, 1) := by decide +kernel
theorem dX10_values_2 : decode cX10_values 2 = .ok (.iconst 1, 1) := by decide +kernel
theorem dX10_values_3 : decode cX10_values 3 = .ok (.invokevirtual 233, 3) := by decide +kernel
theorem dX10_values_6 : decode cX10_values 6 = .ok (.istore_n 3, 1) := by decide +kernel
theorem dX10_values_7 : decode cX10_values 7 = .ok (.iconst 0, 1) := by decide +kernel
theorem dX10_values_8 : decode cX10_values 8 = .ok (.istore 4, 2) := by decide +kernel
theorem dX10_values_10 : decode cX10_values 10 = .ok (.iload 4, 2) := by decide +kernel
theorem dX10_values_12 : decode cX10_values 12 = .ok (.aload_n 0, 1) := by decide +kernel
theorem dX10_values_13 : decode cX10_values 13 = .ok (.getfield 23, 3) := by decide +kernel
theorem dX10_values_16 : decode cX10_values 16 = .ok (.iconst 2, 1) := by decide +kernel
theorem dX10_values_17 : decode cX10_values 17 = .ok (.iaload, 1) := by decide +kernel
theorem dX10_values_18 : decode cX10_values 18 = .ok (.if_icmp .ge 241, 3) := by decide +kernel
theorem dX10_values_21 : decode cX10_values 21 = .ok (.iload_n 1, 1) := by decide +kernel
theorem dX10_values_22 : decode cX10_values 22 = .ok (.iload_n 3, 1) := by decide +kernel
theorem dX10_values_23 : decode cX10_values 23 = .ok (.iload 4, 2) := by decide +kernel
theorem dX10_values_25 : decode cX10_values 25 = .ok (.invokestatic 251, 3) := by decide +kernel
theorem dX10_values_28 : decode cX10_values 28 = .ok (.istore 5, 2) := by decide +kernel
theorem dX10_values_30 : decode cX10_values 30 = .ok (.aload_n 0, 1) := by decide +kernel
theorem dX10_values_31 : decode cX10_values 31 = .ok (.iload_n 2, 1) := by decide +kernel
theorem dX10_values_32 : decode cX10_values 32 = .ok (.invokevirtual 254, 3) := by decide +kernel
theorem dX10_values_35 : decode cX10_values 35 = .ok (.tableswitch 218 0 5 #[37, 64, 91, 107, 218, 159], 37) := by decide +kernel
theorem dX10_values_72 : decode cX10_values 72 = .ok (.aload_n 0, 1) := by decide +kernel
theorem dX10_values_73 : decode cX10_values 73 = .ok (.getfield 9, 3) := by decide +kernel
theorem dX10_values_76 : decode cX10_values 76 = .ok (.iload 5, 2) := by decide +kernel
theorem dX10_values_78 : decode cX10_values 78 = .ok (.aload_n 0, 1) := by decide +kernel
theorem dX10_values_79 : decode cX10_values 79 = .ok (.getfield 9, 3) := by decide +kernel
theorem dX10_values_82 : decode cX10_values 82 = .ok (.iload_n 1, 1) := by decide +kernel
theorem dX10_values_83 : decode cX10_values 83 = .ok (.aload_n 0, 1) := by decide +kernel
theorem dX10_values_84 : decode cX10_values 84 = .ok (.iload_n 2, 1) := by decide +kernel
theorem dX10_values_85 : decode cX10_values 85 = .ok (.iconst 2, 1) := by decide +kernel
theorem dX10_values_86 : decode cX10_values 86 = .ok (.invokevirtual 233, 3) := by decide +kernel
theorem dX10_values_89 : decode cX10_values 89 = .ok (.iload 4, 2) := by decide +kernel
theorem dX10_values_91 : decode cX10_values 91 = .ok (.invokestatic 247, 3) := by decide +kernel
theorem dX10_values_94 : decode cX10_values 94 = .ok (.iaload, 1) := by decide +kernel
theorem dX10_values_95 : decode cX10_values 95 = .ok (.iastore, 1) := by decide +kernel
theorem dX10_values_96 : decode cX10_values 96 = .ok (.goto 157, 3) := by decide +kernel
theorem dX10_values_99 : decode cX10_values 99 = .ok (.aload_n 0, 1) := by decide +kernel
theorem dX10_values_100 : decode cX10_values 100 = .ok (.getfield 9, 3) := by decide +kernel
theorem dX10_values_103 : decode cX10_values 103 = .ok (.iload_n 1, 1) := by decide +kernel
theorem dX10_values_104 : decode cX10_values 104 = .ok (.aload_n 0, 1) := by decide +kernel
theorem dX10_values_105 : decode cX10_values 105 = .ok (.iload_n 2, 1) := by decide +kernel
theorem dX10_values_106 : decode cX10_values 106 = .ok (.iconst 2, 1) := by decide +kernel
theorem dX10_values_107 : decode cX10_values 107 = .ok (.invokevirtual 233, 3) := by decide +kernel
theorem dX10_values_110 : decode cX10_values 110 = .ok (.iload 4, 2) := by decide +kernel
theorem dX10_values_112 : decode cX10_values 112 = .ok (.invokestatic 247, 3) := by decide +kernel
theorem dX10_values_115 : decode cX10_values 115 = .ok (.aload_n 0, 1) := by decide +kernel
theorem dX10_values_116 : decode cX10_values 116 = .ok (.getfield 9, 3) := by decide +kernel
theorem dX10_values_119 : decode cX10_values 119 = .ok (.iload 5, 2) := by decide +kernel
theorem dX10_values_121 : decode cX10_values 121 = .ok (.iaload, 1) := by decide +kernel
theorem dX10_values_122 : decode cX10_values 122 = .ok (.iastore, 1) := by decide +kernel
theorem dX10_values_123 : decode cX10_values 123 = .ok (.goto 130, 3) := by decide +kernel
theorem dX10_values_126 : decode cX10_values 126 = .ok (.aload_n 0, 1) := by decide +kernel
theorem dX10_values_127 : decode cX10_values 127 = .ok (.getfield 9, 3) := by decide +kernel
theorem dX10_values_130 : decode cX10_values 130 = .ok (.iload 5, 2) := by decide +kernel
theorem dX10_values_132 : decode cX10_values 132 = .ok (.aload_n 0, 1) := by decide +kernel
theorem dX10_values_133 : decode cX10_values 133 = .ok (.iload_n 2, 1) := by decide +kernel
theorem dX10_values_134 : decode cX10_values 134 = .ok (.iconst 2, 1) := by decide +kernel
theorem dX10_values_135 : decode cX10_values 135 = .ok (.invokevirtual 233, 3) := by decide +kernel
theorem dX10_values_138 : decode cX10_values 138 = .ok (.iastore, 1) := by decide +kernel
theorem dX10_values_139 : decode cX10_values 139 = .ok (.goto 114, 3) := by decide +kernel
theorem dX10_values_142 : decode cX10_values 142 = .ok (.aload_n 0, 1) := by decide +kernel
theorem dX10_values_143 : decode cX10_values 143 = .ok (.getfield 9, 3) := by decide +kernel
theorem dX10_values_146 : decode cX10_values 146 = .ok (.iload 5, 2) := by decide +kernel
theorem dX10_values_148 : decode cX10_values 148 = .ok (.aload_n 0, 1) := by decide +kernel
theorem dX10_values_149 : decode cX10_values 149 = .ok (.iload_n 2, 1) := by decide +kernel
theorem dX10_values_150 : decode cX10_values 150 = .ok (.invokevirtual 257, 3) := by decide +kernel
theorem dX10_values_153 : decode cX10_values 153 = .ok (.aload_n 0, 1) := by decide +kernel
theorem dX10_values_154 : decode cX10_values 154 = .ok (.getfield 9, 3) := by decide +kernel
theorem dX10_values_157 : decode cX10_values 157 = .ok (.iload_n 1, 1) := by decide +kernel
theorem dX10_values_158 : decode cX10_values 158 = .ok (.aload_n 0, 1) := by decide +kernel
theorem dX10_values_159 : decode cX10_values 159 = .ok (.iload_n 2, 1) := by decide +kernel
theorem dX10_values_160 : decode cX10_values 160 = .ok (.iconst 2, 1) := by decide +kernel
theorem dX10_values_161 : decode cX10_values 161 = .ok (.invokevirtual 233, 3) := by decide +kernel
theorem dX10_values_164 : decode cX10_values 164 = .ok (.iload 4, 2) := by decide +kernel
theorem dX10_values_166 : decode cX10_values 166 = .ok (.invokestatic 251, 3) := by decide +kernel
theorem dX10_values_169 : decode cX10_values 169 = .ok (.iaload, 1) := by decide +kernel
theorem dX10_values_170 : decode cX10_values 170 = .ok (.aload_n 0, 1) := by decide +kernel
theorem dX10_values_171 : decode cX10_values 171 = .ok (.getfield 9, 3) := by decide +kernel
theorem dX10_values_174 : decode cX10_values 174 = .ok (.iload_n 1, 1) := by decide +kernel
theorem dX10_values_175 : decode cX10_values 175 = .ok (.aload_n 0, 1) := by decide +kernel
theorem dX10_values_176 : decode cX10_values 176 = .ok (.iload_n 2, 1) := by decide +kernel
theorem dX10_values_177 : decode cX10_values 177 = .ok (.iconst 3, 1) := by decide +kernel
theorem dX10_values_178 : decode cX10_values 178 = .ok (.invokevirtual 233, 3) := by decide +kernel
theorem dX10_values_181 : decode cX10_values 181 = .ok (.iload 4, 2) := by decide +kernel
theorem dX10_values_183 : decode cX10_values 183 = .ok (.invokestatic 251, 3) := by decide +kernel
theorem dX10_values_186 : decode cX10_values 186 = .ok (.iaload, 1) := by decide +kernel
theorem dX10_values_187 : decode cX10_values 187 = .ok (.invokestatic 260, 3) := by decide +kernel
theorem dX10_values_190 : decode cX10_values 190 = .ok (.iastore, 1) := by decide +kernel
theorem dX10_values_191 : decode cX10_values 191 = .ok (.goto 62, 3) := by decide +kernel
theorem dX10_values_194 : decode cX10_values 194 = .ok (.aload_n 0, 1) := by decide +kernel
theorem dX10_values_195 : decode cX10_values 195 = .ok (.getfield 9, 3) := by decide +kernel
theorem dX10_values_198 : decode cX10_values 198 = .ok (.iload_n 1, 1) := by decide +kernel
theorem dX10_values_199 : decode cX10_values 199 = .ok (.iload_n 3, 1) := by decide +kernel
theorem dX10_values_200 : decode cX10_values 200 = .ok (.iconst 0, 1) := by decide +kernel
theorem dX10_values_201 : decode cX10_values 201 = .ok (.invokestatic 251, 3) := by decide +kernel
theorem dX10_values_204 : decode cX10_values 204 = .ok (.iload 4, 2) := by decide +kernel
theorem dX10_values_206 : decode cX10_values 206 = .ok (.ifCond .ne 17, 3) := by decide +kernel
theorem dX10_values_209 : decode cX10_values 209 = .ok (.aload_n 0, 1) := by decide +kernel
theorem dX10_values_210 : decode cX10_values 210 = .ok (.getfield 9, 3) := by decide +kernel
theorem dX10_values_213 : decode cX10_values 213 = .ok (.iload_n 1, 1) := by decide +kernel
theorem dX10_values_214 : decode cX10_values 214 = .ok (.iload_n 3, 1) := by decide +kernel
theorem dX10_values_215 : decode cX10_values 215 = .ok (.iconst 0, 1) := by decide +kernel
theorem dX10_values_216 : decode cX10_values 216 = .ok (.invokestatic 251, 3) := by decide +kernel
theorem dX10_values_219 : decode cX10_values 219 = .ok (.iaload, 1) := by decide +kernel
theorem dX10_values_220 : decode cX10_values 220 = .ok (.goto 29, 3) := by decide +kernel
theorem dX10_values_223 : decode cX10_values 223 = .ok (.aload_n 0, 1) := by decide +kernel
theorem dX10_values_224 : decode cX10_values 224 = .ok (.iload_n 2, 1) := by decide +kernel
theorem dX10_values_225 : decode cX10_values 225 = .ok (.invokevirtual 257, 3) := by decide +kernel
theorem dX10_values_228 : decode cX10_values 228 = .ok (.aload_n 0, 1) := by decide +kernel
theorem dX10_values_229 : decode cX10_values 229 = .ok (.getfield 9, 3) := by decide +kernel
theorem dX10_values_232 : decode cX10_values 232 = .ok (.iload_n 1, 1) := by decide +kernel
theorem dX10_values_233 : decode cX10_values 233 = .ok (.iload_n 3, 1) := by decide +kernel
theorem dX10_values_234 : decode cX10_values 234 = .ok (.iconst 0, 1) := by decide +kernel
theorem dX10_values_235 : decode cX10_values 235 = .ok (.invokestatic 251, 3) := by decide +kernel
theorem dX10_values_238 : decode cX10_values 238 = .ok (.iaload, 1) := by decide +kernel
theorem dX10_values_239 : decode cX10_values 239 = .ok (.aload_n 0, 1) := by decide +kernel
theorem dX10_values_240 : decode cX10_values 240 = .ok (.getfield 9, 3) := by decide +kernel
theorem dX10_values_243 : decode cX10_values 243 = .ok (.iload 5, 2) := by decide +kernel
theorem dX10_values_245 : decode cX10_values 245 = .ok (.iaload, 1) := by decide +kernel
theorem dX10_values_246 : decode cX10_values 246 = .ok (.invokestatic 260, 3) := by decide +kernel
theorem dX10_values_249 : decode cX10_values 249 = .ok (.iastore, 1) := by decide +kernel
theorem dX10_values_250 : decode cX10_values 250 = .ok (.goto 3, 3) := by decide +kernel
theorem dX10_values_253 : decode cX10_values 253 = .ok (.iinc 4 1, 3) := by decide +kernel
theorem dX10_values_256 : decode cX10_values 256 = .ok (.goto (-246), 3) := by decide +kernel
theorem dX10_values_259 : decode cX10_values 259 = .ok (.return_, 1) := by decide +kernel
theorem dX10_together_0 : decode cX10_together 0 = .ok (.iload_n 1, 1) := by decide +kernel
theorem dX10_together_1 : decode cX10_together 1 = .ok (.invokestatic 263, 3) := by decide +kernel
theorem dX10_together_4 : decode cX10_together 4 = .ok (.istore_n 3, 1) := by decide +kernel
theorem dX10_together_5 : decode cX10_together 5 = .ok (.aload_n 0, 1) := by decide +kernel
theorem dX10_together_6 : decode cX10_together 6 = .ok (.iload_n 2, 1) := by decide +kernel
theorem dX10_together_7 : decode cX10_together 7 = .ok (.iconst 1, 1) := by decide +kernel
theorem dX10_together_8 : decode cX10_together 8 = .ok (.invokevirtual 233, 3) := by decide +kernel
theorem dX10_together_11 : decode cX10_together 11 = .ok (.istore 4, 2) := by decide +kernel
theorem dX10_together_13 : decode cX10_together 13 = .ok (.iload_n 3, 1) := by decide +kernel
theorem dX10_together_14 : decode cX10_together 14 = .ok (.iconst 1, 1) := by decide +kernel
theorem dX10_together_15 : decode cX10_together 15 = .ok (.iadd, 1) := by decide +kernel
theorem dX10_together_16 : decode cX10_together 16 = .ok (.istore 5, 2) := by decide +kernel
theorem dX10_together_18 : decode cX10_together 18 = .ok (.iload 5, 2) := by decide +kernel
theorem dX10_together_20 : decode cX10_together 20 = .ok (.aload_n 0, 1) := by decide +kernel
theorem dX10_together_21 : decode cX10_together 21 = .ok (.getfield 23, 3) := by decide +kernel
theorem dX10_together_24 : decode cX10_together 24 = .ok (.iconst 0, 1) := by decide +kernel
theorem dX10_together_25 : decode cX10_together 25 = .ok (.iaload, 1) := by decide +kernel
theorem dX10_together_26 : decode cX10_together 26 = .ok (.if_icmp .ge 128, 3) := by decide +kernel
theorem dX10_together_29 : decode cX10_together 29 = .ok (.iload_n 1, 1) := by decide +kernel
theorem dX10_together_30 : decode cX10_together 30 = .ok (.iload 5, 2) := by decide +kernel
theorem dX10_together_32 : decode cX10_together 32 = .ok (.invokestatic 169, 3) := by decide +kernel
theorem dX10_together_35 : decode cX10_together 35 = .ok (.ifCond .ne 6, 3) := by decide +kernel
theorem dX10_together_38 : decode cX10_together 38 = .ok (.goto 110, 3) := by decide +kernel
theorem dX10_together_41 : decode cX10_together 41 = .ok (.iconst 0, 1) := by decide +kernel
theorem dX10_together_42 : decode cX10_together 42 = .ok (.istore 6, 2) := by decide +kernel
theorem dX10_together_44 : decode cX10_together 44 = .ok (.iload 6, 2) := by decide +kernel
theorem dX10_together_46 : decode cX10_together 46 = .ok (.aload_n 0, 1) := by decide +kernel
theorem dX10_together_47 : decode cX10_together 47 = .ok (.getfield 23, 3) := by decide +kernel
theorem dX10_together_50 : decode cX10_together 50 = .ok (.iconst 2, 1) := by decide +kernel
theorem dX10_together_51 : decode cX10_together 51 = .ok (.iaload, 1) := by decide +kernel
theorem dX10_together_52 : decode cX10_together 52 = .ok (.if_icmp .ge 96, 3) := by decide +kernel
theorem dX10_together_55 : decode cX10_together 55 = .ok (.aload_n 0, 1) := by decide +kernel
theorem dX10_together_56 : decode cX10_together 56 = .ok (.iload_n 2, 1) := by decide +kernel
theorem dX10_together_57 : decode cX10_together 57 = .ok (.invokevirtual 254, 3) := by decide +kernel
theorem dX10_together_60 : decode cX10_together 60 = .ok (.iconst 4, 1) := by decide +kernel
theorem dX10_together_61 : decode cX10_together 61 = .ok (.if_icmp .ne 54, 3) := by decide +kernel
theorem dX10_together_64 : decode cX10_together 64 = .ok (.aload_n 0, 1) := by decide +kernel
theorem dX10_together_65 : decode cX10_together 65 = .ok (.getfield 9, 3) := by decide +kernel
theorem dX10_together_68 : decode cX10_together 68 = .ok (.iload_n 3, 1) := by decide +kernel
theorem dX10_together_69 : decode cX10_together 69 = .ok (.iload 4, 2) := by decide +kernel
theorem dX10_together_71 : decode cX10_together 71 = .ok (.iload 6, 2) := by decide +kernel
theorem dX10_together_73 : decode cX10_together 73 = .ok (.invokestatic 251, 3) := by decide +kernel
theorem dX10_together_76 : decode cX10_together 76 = .ok (.aload_n 0, 1) := by decide +kernel
theorem dX10_together_77 : decode cX10_together 77 = .ok (.iload_n 2, 1) := by decide +kernel
theorem dX10_together_78 : decode cX10_together 78 = .ok (.invokevirtual 257, 3) := by decide +kernel
theorem dX10_together_81 : decode cX10_together 81 = .ok (.aload_n 0, 1) := by decide +kernel
theorem dX10_together_82 : decode cX10_together 82 = .ok (.getfield 9, 3) := by decide +kernel
theorem dX10_together_85 : decode cX10_together 85 = .ok (.iload_n 3, 1) := by decide +kernel
theorem dX10_together_86 : decode cX10_together 86 = .ok (.iload 4, 2) := by decide +kernel
theorem dX10_together_88 : decode cX10_together 88 = .ok (.iload 6, 2) := by decide +kernel
theorem dX10_together_90 : decode cX10_together 90 = .ok (.invokestatic 251, 3) := by decide +kernel
theorem dX10_together_93 : decode cX10_together 93 = .ok (.iaload, 1) := by decide +kernel
theorem dX10_together_94 : decode cX10_together 94 = .ok (.aload_n 0, 1) := by decide +kernel
theorem dX10_together_95 : decode cX10_together 95 = .ok (.getfield 9, 3) := by decide +kernel
theorem dX10_together_98 : decode cX10_together 98 = .ok (.iload 5, 2) := by decide +kernel
theorem dX10_together_100 : decode cX10_together 100 = .ok (.iload 4, 2) := by decide +kernel
theorem dX10_together_102 : decode cX10_together 102 = .ok (.iload 6, 2) := by decide +kernel
theorem dX10_together_104 : decode cX10_together 104 = .ok (.invokestatic 251, 3) := by decide +kernel
theorem dX10_together_107 : decode cX10_together 107 = .ok (.iaload, 1) := by decide +kernel
theorem dX10_together_108 : decode cX10_together 108 = .ok (.invokestatic 260, 3) := by decide +kernel
theorem dX10_together_111 : decode cX10_together 111 = .ok (.iastore, 1) := by decide +kernel
theorem dX10_together_112 : decode cX10_together 112 = .ok (.goto 30, 3) := by decide +kernel
theorem dX10_together_115 : decode cX10_together 115 = .ok (.aload_n 0, 1) := by decide +kernel
theorem dX10_together_116 : decode cX10_together 116 = .ok (.getfield 9, 3) := by decide +kernel
theorem dX10_together_119 : decode cX10_together 119 = .ok (.iload 5, 2) := by decide +kernel
theorem dX10_together_121 : decode cX10_together 121 = .ok (.iload 4, 2) := by decide +kernel
theorem dX10_together_123 : decode cX10_together 123 = .ok (.iload 6, 2) := by decide +kernel
theorem dX10_together_125 : decode cX10_together 125 = .ok (.invokestatic 251, 3) := by decide +kernel
theorem dX10_together_128 : decode cX10_together 128 = .ok (.aload_n 0, 1) := by decide +kernel
theorem dX10_together_129 : decode cX10_together 129 = .ok (.getfield 9, 3) := by decide +kernel
theorem dX10_together_132 : decode cX10_together 132 = .ok (.iload_n 3, 1) := by decide +kernel
theorem dX10_together_133 : decode cX10_together 133 = .ok (.iload 4, 2) := by decide +kernel
theorem dX10_together_135 : decode cX10_together 135 = .ok (.iload 6, 2) := by decide +kernel
theorem dX10_together_137 : decode cX10_together 137 = .ok (.invokestatic 251, 3) := by decide +kernel
theorem dX10_together_140 : decode cX10_together 140 = .ok (.iaload, 1) := by decide +kernel
theorem dX10_together_141 : decode cX10_together 141 = .ok (.iastore, 1) := by decide +kernel
theorem dX10_together_142 : decode cX10_together 142 = .ok (.iinc 6 1, 3) := by decide +kernel
theorem dX10_together_145 : decode cX10_together 145 = .ok (.goto (-101), 3) := by decide +kernel
theorem dX10_together_148 : decode cX10_together 148 = .ok (.iinc 5 1, 3) := by decide +kernel
theorem dX10_together_151 : decode cX10_together 151 = .ok (.goto (-133), 3) := by decide +kernel
theorem dX10_together_154 : decode cX10_together 154 = .ok (.return_, 1) := by decide +kernel
theorem dX10_computes_0 : decode cX10_computes 0 = .ok (.aload_n 0, 1) := by decide +kernel
theorem dX10_computes_1 : decode cX10_computes 1 = .ok (.iload_n 1, 1) := by decide +kernel
theorem dX10_computes_2 : decode cX10_computes 2 = .ok (.invokevirtual 238, 3) := by decide +kernel
theorem dX10_computes_5 : decode cX10_computes 5 = .ok (.istore_n 2, 1) := by decide +kernel
theorem dX10_computes_6 : decode cX10_computes 6 = .ok (.aload_n 0, 1) := by decide +kernel
theorem dX10_computes_7 : decode cX10_computes 7 = .ok (.iload_n 1, 1) := by decide +kernel
theorem dX10_computes_8 : decode cX10_computes 8 = .ok (.invokevirtual 230, 3) := by decide +kernel
theorem dX10_computes_11 : decode cX10_computes 11 = .ok (.istore_n 3, 1) := by decide +kernel
theorem dX10_computes_12 : decode cX10_computes 12 = .ok (.iload_n 3, 1) := by decide +kernel
theorem dX10_computes_13 : decode cX10_computes 13 = .ok (.aload_n 0, 1) := by decide +kernel
theorem dX10_computes_14 : decode cX10_computes 14 = .ok (.iload_n 1, 1) := by decide +kernel
theorem dX10_computes_15 : decode cX10_computes 15 = .ok (.invokevirtual 266, 3) := by decide +kernel
theorem dX10_computes_18 : decode cX10_computes 18 = .ok (.if_icmp .ge 70, 3) := by decide +kernel
theorem dX10_computes_21 : decode cX10_computes 21 = .ok (.aload_n 0, 1) := by decide +kernel
theorem dX10_computes_22 : decode cX10_computes 22 = .ok (.iload_n 3, 1) := by decide +kernel
theorem dX10_computes_23 : decode cX10_computes 23 = .ok (.invokevirtual 254, 3) := by decide +kernel
theorem dX10_computes_26 : decode cX10_computes 26 = .ok (.iconst 4, 1) := by decide +kernel
theorem dX10_computes_27 : decode cX10_computes 27 = .ok (.if_icmp .eq 13, 3) := by decide +kernel
theorem dX10_computes_30 : decode cX10_computes 30 = .ok (.aload_n 0, 1) := by decide +kernel
theorem dX10_computes_31 : decode cX10_computes 31 = .ok (.iload_n 3, 1) := by decide +kernel
theorem dX10_computes_32 : decode cX10_computes 32 = .ok (.invokevirtual 254, 3) := by decide +kernel
theorem dX10_computes_35 : decode cX10_computes 35 = .ok (.bipush 6, 2) := by decide +kernel
theorem dX10_computes_37 : decode cX10_computes 37 = .ok (.if_icmp .ne 9, 3) := by decide +kernel
theorem dX10_computes_40 : decode cX10_computes 40 = .ok (.aload_n 0, 1) := by decide +kernel
theorem dX10_computes_41 : decode cX10_computes 41 = .ok (.iload_n 2, 1) := by decide +kernel
theorem dX10_computes_42 : decode cX10_computes 42 = .ok (.iload_n 3, 1) := by decide +kernel
theorem dX10_computes_43 : decode cX10_computes 43 = .ok (.invokevirtual 269, 3) := by decide +kernel
theorem dX10_computes_46 : decode cX10_computes 46 = .ok (.iconst 0, 1) := by decide +kernel
theorem dX10_computes_47 : decode cX10_computes 47 = .ok (.istore 4, 2) := by decide +kernel
theorem dX10_computes_49 : decode cX10_computes 49 = .ok (.iload 4, 2) := by decide +kernel
theorem dX10_computes_51 : decode cX10_computes 51 = .ok (.aload_n 0, 1) := by decide +kernel
theorem dX10_computes_52 : decode cX10_computes 52 = .ok (.getfield 23, 3) := by decide +kernel
theorem dX10_computes_55 : decode cX10_computes 55 = .ok (.iconst 0, 1) := by decide +kernel
theorem dX10_computes_56 : decode cX10_computes 56 = .ok (.iaload, 1) := by decide +kernel
theorem dX10_computes_57 : decode cX10_computes 57 = .ok (.if_icmp .ge 25, 3) := by decide +kernel
theorem dX10_computes_60 : decode cX10_computes 60 = .ok (.iload_n 2, 1) := by decide +kernel
theorem dX10_computes_61 : decode cX10_computes 61 = .ok (.iload 4, 2) := by decide +kernel
theorem dX10_computes_63 : decode cX10_computes 63 = .ok (.invokestatic 169, 3) := by decide +kernel
theorem dX10_computes_66 : decode cX10_computes 66 = .ok (.ifCond .eq 10, 3) := by decide +kernel
theorem dX10_computes_69 : decode cX10_computes 69 = .ok (.aload_n 0, 1) := by decide +kernel
theorem dX10_computes_70 : decode cX10_computes 70 = .ok (.iload 4, 2) := by decide +kernel
theorem dX10_computes_72 : decode cX10_computes 72 = .ok (.iload_n 3, 1) := by decide +kernel
theorem dX10_computes_73 : decode cX10_computes 73 = .ok (.invokevirtual 273, 3) := by decide +kernel
theorem dX10_computes_76 : decode cX10_computes 76 = .ok (.iinc 4 1, 3) := by decide +kernel
theorem dX10_computes_79 : decode cX10_computes 79 = .ok (.goto (-30), 3) := by decide +kernel
theorem dX10_computes_82 : decode cX10_computes 82 = .ok (.iinc 3 1, 3) := by decide +kernel
theorem dX10_computes_85 : decode cX10_computes 85 = .ok (.goto (-73), 3) := by decide +kernel
theorem dX10_computes_88 : decode cX10_computes 88 = .ok (.return_, 1) := by decide +kernel
theorem dX10_greater_0 : decode cX10_greater 0 = .ok (.iload_n 0, 1) := by decide +kernel
theorem dX10_greater_1 : decode cX10_greater 1 = .ok (.iload_n 1, 1) := by decide +kernel
theorem dX10_greater_2 : decode cX10_greater 2 = .ok (.if_icmp .le 7, 3) := by decide +kernel
theorem dX10_greater_5 : decode cX10_greater 5 = .ok (.iload_n 0, 1) := by decide +kernel
theorem dX10_greater_6 : decode cX10_greater 6 = .ok (.goto 4, 3) := by decide +kernel
theorem dX10_greater_9 : decode cX10_greater 9 = .ok (.iload_n 1, 1) := by decide +kernel
theorem dX10_greater_10 : decode cX10_greater 10 = .ok (.ireturn, 1) := by decide +kernel
theorem dX10_halvings_0 : decode cX10_halvings 0 = .ok (.iconst 0, 1) := by decide +kernel
theorem dX10_halvings_1 : decode cX10_halvings 1 = .ok (.istore_n 1, 1) := by decide +kernel
theorem dX10_halvings_2 : decode cX10_halvings 2 = .ok (.iconst 1, 1) := by decide +kernel
theorem dX10_halvings_3 : decode cX10_halvings 3 = .ok (.iload_n 1, 1) := by decide +kernel
theorem dX10_halvings_4 : decode cX10_halvings 4 = .ok (.ishl, 1) := by decide +kernel
theorem dX10_halvings_5 : decode cX10_halvings 5 = .ok (.iload_n 0, 1) := by decide +kernel
theorem dX10_halvings_6 : decode cX10_halvings 6 = .ok (.if_icmp .ge 9, 3) := by decide +kernel
theorem dX10_halvings_9 : decode cX10_halvings 9 = .ok (.iinc 1 1, 3) := by decide +kernel
theorem dX10_halvings_12 : decode cX10_halvings 12 = .ok (.goto (-10), 3) := by decide +kernel
theorem dX10_halvings_15 : decode cX10_halvings 15 = .ok (.iload_n 1, 1) := by decide +kernel
theorem dX10_halvings_16 : decode cX10_halvings 16 = .ok (.ireturn, 1) := by decide +kernel
theorem dX10_bits_0 : decode cX10_bits 0 = .ok (.iconst 0, 1) := by decide +kernel
theorem dX10_bits_1 : decode cX10_bits 1 = .ok (.istore_n 1, 1) := by decide +kernel
theorem dX10_bits_2 : decode cX10_bits 2 = .ok (.iconst 0, 1) := by decide +kernel
theorem dX10_bits_3 : decode cX10_bits 3 = .ok (.istore_n 2, 1) := by decide +kernel
theorem dX10_bits_4 : decode cX10_bits 4 = .ok (.iload_n 2, 1) := by decide +kernel
theorem dX10_bits_5 : decode cX10_bits 5 = .ok (.bipush 8, 2) := by decide +kernel
theorem dX10_bits_7 : decode cX10_bits 7 = .ok (.if_icmp .ge 17, 3) := by decide +kernel
theorem dX10_bits_10 : decode cX10_bits 10 = .ok (.iload_n 1, 1) := by decide +kernel
theorem dX10_bits_11 : decode cX10_bits 11 = .ok (.iload_n 0, 1) := by decide +kernel
theorem dX10_bits_12 : decode cX10_bits 12 = .ok (.iload_n 2, 1) := by decide +kernel
theorem dX10_bits_13 : decode cX10_bits 13 = .ok (.ishr, 1) := by decide +kernel
theorem dX10_bits_14 : decode cX10_bits 14 = .ok (.iconst 1, 1) := by decide +kernel
theorem dX10_bits_15 : decode cX10_bits 15 = .ok (.iand, 1) := by decide +kernel
theorem dX10_bits_16 : decode cX10_bits 16 = .ok (.iadd, 1) := by decide +kernel
theorem dX10_bits_17 : decode cX10_bits 17 = .ok (.istore_n 1, 1) := by decide +kernel
theorem dX10_bits_18 : decode cX10_bits 18 = .ok (.iinc 2 1, 3) := by decide +kernel
theorem dX10_bits_21 : decode cX10_bits 21 = .ok (.goto (-17), 3) := by decide +kernel
theorem dX10_bits_24 : decode cX10_bits 24 = .ok (.iload_n 1, 1) := by decide +kernel
theorem dX10_bits_25 : decode cX10_bits 25 = .ok (.ireturn, 1) := by decide +kernel
theorem dX10_readyOf_0 : decode cX10_readyOf 0 = .ok (.aload_n 0, 1) := by decide +kernel
theorem dX10_readyOf_1 : decode cX10_readyOf 1 = .ok (.getfield 9, 3) := by decide +kernel
theorem dX10_readyOf_4 : decode cX10_readyOf 4 = .ok (.bipush 8, 2) := by decide +kernel
theorem dX10_readyOf_6 : decode cX10_readyOf 6 = .ok (.iconst 4, 1) := by decide +kernel
theorem dX10_readyOf_7 : decode cX10_readyOf 7 = .ok (.iload_n 1, 1) := by decide +kernel
theorem dX10_readyOf_8 : decode cX10_readyOf 8 = .ok (.imul, 1) := by decide +kernel
theorem dX10_readyOf_9 : decode cX10_readyOf 9 = .ok (.iadd, 1) := by decide +kernel
theorem dX10_readyOf_10 : decode cX10_readyOf 10 = .ok (.iload_n 2, 1) := by decide +kernel
theorem dX10_readyOf_11 : decode cX10_readyOf 11 = .ok (.iadd, 1) := by decide +kernel
theorem dX10_readyOf_12 : decode cX10_readyOf 12 = .ok (.iaload, 1) := by decide +kernel
theorem dX10_readyOf_13 : decode cX10_readyOf 13 = .ok (.ireturn, 1) := by decide +kernel
theorem dX10_stalls_0 : decode cX10_stalls 0 = .ok (.aload_n 0, 1) := by decide +kernel
theorem dX10_stalls_1 : decode cX10_stalls 1 = .ok (.getfield 9, 3) := by decide +kernel
theorem dX10_stalls_4 : decode cX10_stalls 4 = .ok (.bipush 120, 2) := by decide +kernel
theorem dX10_stalls_6 : decode cX10_stalls 6 = .ok (.iconst 4, 1) := by decide +kernel
theorem dX10_stalls_7 : decode cX10_stalls 7 = .ok (.iload_n 1, 1) := by decide +kernel
theorem dX10_stalls_8 : decode cX10_stalls 8 = .ok (.imul, 1) := by decide +kernel
theorem dX10_stalls_9 : decode cX10_stalls 9 = .ok (.iadd, 1) := by decide +kernel
theorem dX10_stalls_10 : decode cX10_stalls 10 = .ok (.iload_n 2, 1) := by decide +kernel
theorem dX10_stalls_11 : decode cX10_stalls 11 = .ok (.iadd, 1) := by decide +kernel
theorem dX10_stalls_12 : decode cX10_stalls 12 = .ok (.dup2, 1) := by decide +kernel
theorem dX10_stalls_13 : decode cX10_stalls 13 = .ok (.iaload, 1) := by decide +kernel
theorem dX10_stalls_14 : decode cX10_stalls 14 = .ok (.iload_n 3, 1) := by decide +kernel
theorem dX10_stalls_15 : decode cX10_stalls 15 = .ok (.iadd, 1) := by decide +kernel
theorem dX10_stalls_16 : decode cX10_stalls 16 = .ok (.iastore, 1) := by decide +kernel
theorem dX10_stalls_17 : decode cX10_stalls 17 = .ok (.return_, 1) := by decide +kernel
theorem dX10_startOf_0 : decode cX10_startOf 0 = .ok (.aload_n 0, 1) := by decide +kernel
theorem dX10_startOf_1 : decode cX10_startOf 1 = .ok (.getfield 9, 3) := by decide +kernel
theorem dX10_startOf_4 : decode cX10_startOf 4 = .ok (.bipush 56, 2) := by decide +kernel
theorem dX10_startOf_6 : decode cX10_startOf 6 = .ok (.bipush 8, 2) := by decide +kernel
theorem dX10_startOf_8 : decode cX10_startOf 8 = .ok (.iload_n 1, 1) := by decide +kernel
theorem dX10_startOf_9 : decode cX10_startOf 9 = .ok (.imul, 1) := by decide +kernel
theorem dX10_startOf_10 : decode cX10_startOf 10 = .ok (.iadd, 1) := by decide +kernel
theorem dX10_startOf_11 : decode cX10_startOf 11 = .ok (.aload_n 0, 1) := by decide +kernel
theorem dX10_startOf_12 : decode cX10_startOf 12 = .ok (.getfield 9, 3) := by decide +kernel
theorem dX10_startOf_15 : decode cX10_startOf 15 = .ok (.bipush 48, 2) := by decide +kernel
theorem dX10_startOf_17 : decode cX10_startOf 17 = .ok (.iload_n 1, 1) := by decide +kernel
theorem dX10_startOf_18 : decode cX10_startOf 18 = .ok (.iadd, 1) := by decide +kernel
theorem dX10_startOf_19 : decode cX10_startOf 19 = .ok (.iaload, 1) := by decide +kernel
theorem dX10_startOf_20 : decode cX10_startOf 20 = .ok (.iload_n 2, 1) := by decide +kernel
theorem dX10_startOf_21 : decode cX10_startOf 21 = .ok (.isub, 1) := by decide +kernel
theorem dX10_startOf_22 : decode cX10_startOf 22 = .ok (.bipush 8, 2) := by decide +kernel
theorem dX10_startOf_24 : decode cX10_startOf 24 = .ok (.irem, 1) := by decide +kernel
theorem dX10_startOf_25 : decode cX10_startOf 25 = .ok (.iadd, 1) := by decide +kernel
theorem dX10_startOf_26 : decode cX10_startOf 26 = .ok (.iaload, 1) := by decide +kernel
theorem dX10_startOf_27 : decode cX10_startOf 27 = .ok (.ireturn, 1) := by decide +kernel
theorem dX10_activates_0 : decode cX10_activates 0 = .ok (.aload_n 0, 1) := by decide +kernel
theorem dX10_activates_1 : decode cX10_activates 1 = .ok (.getfield 9, 3) := by decide +kernel
theorem dX10_activates_4 : decode cX10_activates 4 = .ok (.bipush 48, 2) := by decide +kernel
theorem dX10_activates_6 : decode cX10_activates 6 = .ok (.iload_n 1, 1) := by decide +kernel
theorem dX10_activates_7 : decode cX10_activates 7 = .ok (.iadd, 1) := by decide +kernel
theorem dX10_activates_8 : decode cX10_activates 8 = .ok (.iaload, 1) := by decide +kernel
theorem dX10_activates_9 : decode cX10_activates 9 = .ok (.aload_n 0, 1) := by decide +kernel
theorem dX10_activates_10 : decode cX10_activates 10 = .ok (.getfield 23, 3) := by decide +kernel
theorem dX10_activates_13 : decode cX10_activates 13 = .ok (.bipush 9, 2) := by decide +kernel
theorem dX10_activates_15 : decode cX10_activates 15 = .ok (.iaload, 1) := by decide +kernel
theorem dX10_activates_16 : decode cX10_activates 16 = .ok (.if_icmp .ge 7, 3) := by decide +kernel
theorem dX10_activates_19 : decode cX10_activates 19 = .ok (.iload_n 3, 1) := by decide +kernel
theorem dX10_activates_20 : decode cX10_activates 20 = .ok (.goto 27, 3) := by decide +kernel
theorem dX10_activates_23 : decode cX10_activates 23 = .ok (.iload_n 3, 1) := by decide +kernel
theorem dX10_activates_24 : decode cX10_activates 24 = .ok (.aload_n 0, 1) := by decide +kernel
theorem dX10_activates_25 : decode cX10_activates 25 = .ok (.iload_n 1, 1) := by decide +kernel
theorem dX10_activates_26 : decode cX10_activates 26 = .ok (.aload_n 0, 1) := by decide +kernel
theorem dX10_activates_27 : decode cX10_activates 27 = .ok (.getfield 23, 3) := by decide +kernel
theorem dX10_activates_30 : decode cX10_activates 30 = .ok (.bipush 9, 2) := by decide +kernel
theorem dX10_activates_32 : decode cX10_activates 32 = .ok (.iaload, 1) := by decide +kernel
theorem dX10_activates_33 : decode cX10_activates 33 = .ok (.invokevirtual 276, 3) := by decide +kernel
theorem dX10_activates_36 : decode cX10_activates 36 = .ok (.aload_n 0, 1) := by decide +kernel
theorem dX10_activates_37 : decode cX10_activates 37 = .ok (.getfield 23, 3) := by decide +kernel
theorem dX10_activates_40 : decode cX10_activates 40 = .ok (.bipush 10, 2) := by decide +kernel
theorem dX10_activates_42 : decode cX10_activates 42 = .ok (.iaload, 1) := by decide +kernel
theorem dX10_activates_43 : decode cX10_activates 43 = .ok (.iadd, 1) := by decide +kernel
theorem dX10_activates_44 : decode cX10_activates 44 = .ok (.invokestatic 279, 3) := by decide +kernel
theorem dX10_activates_47 : decode cX10_activates 47 = .ok (.istore 4, 2) := by decide +kernel
theorem dX10_activates_49 : decode cX10_activates 49 = .ok (.aload_n 0, 1) := by decide +kernel
theorem dX10_activates_50 : decode cX10_activates 50 = .ok (.iload_n 1, 1) := by decide +kernel
theorem dX10_activates_51 : decode cX10_activates 51 = .ok (.iconst 1, 1) := by decide +kernel
theorem dX10_activates_52 : decode cX10_activates 52 = .ok (.aload_n 0, 1) := by decide +kernel
theorem dX10_activates_53 : decode cX10_activates 53 = .ok (.getfield 23, 3) := by decide +kernel
theorem dX10_activates_56 : decode cX10_activates 56 = .ok (.iconst 3, 1) := by decide +kernel
theorem dX10_activates_57 : decode cX10_activates 57 = .ok (.iaload, 1) := by decide +kernel
theorem dX10_activates_58 : decode cX10_activates 58 = .ok (.invokevirtual 282, 3) := by decide +kernel
theorem dX10_activates_61 : decode cX10_activates 61 = .ok (.aload_n 0, 1) := by decide +kernel
theorem dX10_activates_62 : decode cX10_activates 62 = .ok (.iload_n 1, 1) := by decide +kernel
theorem dX10_activates_63 : decode cX10_activates 63 = .ok (.iconst 2, 1) := by decide +kernel
theorem dX10_activates_64 : decode cX10_activates 64 = .ok (.iload 4, 2) := by decide +kernel
theorem dX10_activates_66 : decode cX10_activates 66 = .ok (.iload_n 3, 1) := by decide +kernel
theorem dX10_activates_67 : decode cX10_activates 67 = .ok (.isub, 1) := by decide +kernel
theorem dX10_activates_68 : decode cX10_activates 68 = .ok (.invokevirtual 282, 3) := by decide +kernel
theorem dX10_activates_71 : decode cX10_activates 71 = .ok (.aload_n 0, 1) := by decide +kernel
theorem dX10_activates_72 : decode cX10_activates 72 = .ok (.getfield 9, 3) := by decide +kernel
theorem dX10_activates_75 : decode cX10_activates 75 = .ok (.bipush 56, 2) := by decide +kernel
theorem dX10_activates_77 : decode cX10_activates 77 = .ok (.bipush 8, 2) := by decide +kernel
theorem dX10_activates_79 : decode cX10_activates 79 = .ok (.iload_n 1, 1) := by decide +kernel
theorem dX10_activates_80 : decode cX10_activates 80 = .ok (.imul, 1) := by decide +kernel
theorem dX10_activates_81 : decode cX10_activates 81 = .ok (.iadd, 1) := by decide +kernel
theorem dX10_activates_82 : decode cX10_activates 82 = .ok (.aload_n 0, 1) := by decide +kernel
theorem dX10_activates_83 : decode cX10_activates 83 = .ok (.getfield 9, 3) := by decide +kernel
theorem dX10_activates_86 : decode cX10_activates 86 = .ok (.bipush 48, 2) := by decide +kernel
theorem dX10_activates_88 : decode cX10_activates 88 = .ok (.iload_n 1, 1) := by decide +kernel
theorem dX10_activates_89 : decode cX10_activates 89 = .ok (.iadd, 1) := by decide +kernel
theorem dX10_activates_90 : decode cX10_activates 90 = .ok (.iaload, 1) := by decide +kernel
theorem dX10_activates_91 : decode cX10_activates 91 = .ok (.bipush 8, 2) := by decide +kernel
theorem dX10_activates_93 : decode cX10_activates 93 = .ok (.irem, 1) := by decide +kernel
theorem dX10_activates_94 : decode cX10_activates 94 = .ok (.iadd, 1) := by decide +kernel
theorem dX10_activates_95 : decode cX10_activates 95 = .ok (.iload 4, 2) := by decide +kernel
theorem dX10_activates_97 : decode cX10_activates 97 = .ok (.iastore, 1) := by decide +kernel
theorem dX10_activates_98 : decode cX10_activates 98 = .ok (.aload_n 0, 1) := by decide +kernel
theorem dX10_activates_99 : decode cX10_activates 99 = .ok (.getfield 9, 3) := by decide +kernel
theorem dX10_activates_102 : decode cX10_activates 102 = .ok (.bipush 48, 2) := by decide +kernel
theorem dX10_activates_104 : decode cX10_activates 104 = .ok (.iload_n 1, 1) := by decide +kernel
theorem dX10_activates_105 : decode cX10_activates 105 = .ok (.iadd, 1) := by decide +kernel
theorem dX10_activates_106 : decode cX10_activates 106 = .ok (.dup2, 1) := by decide +kernel
theorem dX10_activates_107 : decode cX10_activates 107 = .ok (.iaload, 1) := by decide +kernel
theorem dX10_activates_108 : decode cX10_activates 108 = .ok (.iconst 1, 1) := by decide +kernel
theorem dX10_activates_109 : decode cX10_activates 109 = .ok (.iadd, 1) := by decide +kernel
theorem dX10_activates_110 : decode cX10_activates 110 = .ok (.iastore, 1) := by decide +kernel
theorem dX10_activates_111 : decode cX10_activates 111 = .ok (.aload_n 0, 1) := by decide +kernel
theorem dX10_activates_112 : decode cX10_activates 112 = .ok (.getfield 9, 3) := by decide +kernel
theorem dX10_activates_115 : decode cX10_activates 115 = .ok (.bipush 40, 2) := by decide +kernel
theorem dX10_activates_117 : decode cX10_activates 117 = .ok (.iload_n 1, 1) := by decide +kernel
theorem dX10_activates_118 : decode cX10_activates 118 = .ok (.iadd, 1) := by decide +kernel
theorem dX10_activates_119 : decode cX10_activates 119 = .ok (.iload_n 2, 1) := by decide +kernel
theorem dX10_activates_120 : decode cX10_activates 120 = .ok (.iconst 1, 1) := by decide +kernel
theorem dX10_activates_121 : decode cX10_activates 121 = .ok (.iadd, 1) := by decide +kernel
theorem dX10_activates_122 : decode cX10_activates 122 = .ok (.iastore, 1) := by decide +kernel
theorem dX10_activates_123 : decode cX10_activates 123 = .ok (.iload 4, 2) := by decide +kernel
theorem dX10_activates_125 : decode cX10_activates 125 = .ok (.aload_n 0, 1) := by decide +kernel
theorem dX10_activates_126 : decode cX10_activates 126 = .ok (.getfield 23, 3) := by decide +kernel
theorem dX10_activates_129 : decode cX10_activates 129 = .ok (.iconst 3, 1) := by decide +kernel
theorem dX10_activates_130 : decode cX10_activates 130 = .ok (.iaload, 1) := by decide +kernel
theorem dX10_activates_131 : decode cX10_activates 131 = .ok (.iadd, 1) := by decide +kernel
theorem dX10_activates_132 : decode cX10_activates 132 = .ok (.ireturn, 1) := by decide +kernel
theorem dX10_alone_0 : decode cX10_alone 0 = .ok (.aload_n 0, 1) := by decide +kernel
theorem dX10_alone_1 : decode cX10_alone 1 = .ok (.iload_n 2, 1) := by decide +kernel
theorem dX10_alone_2 : decode cX10_alone 2 = .ok (.invokevirtual 254, 3) := by decide +kernel
theorem dX10_alone_5 : decode cX10_alone 5 = .ok (.istore_n 3, 1) := by decide +kernel
theorem dX10_alone_6 : decode cX10_alone 6 = .ok (.aload_n 0, 1) := by decide +kernel
theorem dX10_alone_7 : decode cX10_alone 7 = .ok (.iload_n 2, 1) := by decide +kernel
theorem dX10_alone_8 : decode cX10_alone 8 = .ok (.iconst 1, 1) := by decide +kernel
theorem dX10_alone_9 : decode cX10_alone 9 = .ok (.invokevirtual 233, 3) := by decide +kernel
theorem dX10_alone_12 : decode cX10_alone 12 = .ok (.istore 4, 2) := by decide +kernel
theorem dX10_alone_14 : decode cX10_alone 14 = .ok (.aload_n 0, 1) := by decide +kernel
theorem dX10_alone_15 : decode cX10_alone 15 = .ok (.getfield 9, 3) := by decide +kernel
theorem dX10_alone_18 : decode cX10_alone 18 = .ok (.iconst 0, 1) := by decide +kernel
theorem dX10_alone_19 : decode cX10_alone 19 = .ok (.iload_n 1, 1) := by decide +kernel
theorem dX10_alone_20 : decode cX10_alone 20 = .ok (.iadd, 1) := by decide +kernel
theorem dX10_alone_21 : decode cX10_alone 21 = .ok (.iaload, 1) := by decide +kernel
theorem dX10_alone_22 : decode cX10_alone 22 = .ok (.aload_n 0, 1) := by decide +kernel
theorem dX10_alone_23 : decode cX10_alone 23 = .ok (.iload_n 1, 1) := by decide +kernel
theorem dX10_alone_24 : decode cX10_alone 24 = .ok (.iload 4, 2) := by decide +kernel
theorem dX10_alone_26 : decode cX10_alone 26 = .ok (.invokevirtual 286, 3) := by decide +kernel
theorem dX10_alone_29 : decode cX10_alone 29 = .ok (.invokestatic 279, 3) := by decide +kernel
theorem dX10_alone_32 : decode cX10_alone 32 = .ok (.istore 5, 2) := by decide +kernel
theorem dX10_alone_34 : decode cX10_alone 34 = .ok (.iload_n 3, 1) := by decide +kernel
theorem dX10_alone_35 : decode cX10_alone 35 = .ok (.iconst 3, 1) := by decide +kernel
theorem dX10_alone_36 : decode cX10_alone 36 = .ok (.if_icmp .ne 35, 3) := by decide +kernel
theorem dX10_alone_39 : decode cX10_alone 39 = .ok (.iload 5, 2) := by decide +kernel
theorem dX10_alone_41 : decode cX10_alone 41 = .ok (.aload_n 0, 1) := by decide +kernel
theorem dX10_alone_42 : decode cX10_alone 42 = .ok (.iload_n 1, 1) := by decide +kernel
theorem dX10_alone_43 : decode cX10_alone 43 = .ok (.aload_n 0, 1) := by decide +kernel
theorem dX10_alone_44 : decode cX10_alone 44 = .ok (.iload_n 2, 1) := by decide +kernel
theorem dX10_alone_45 : decode cX10_alone 45 = .ok (.iconst 2, 1) := by decide +kernel
theorem dX10_alone_46 : decode cX10_alone 46 = .ok (.invokevirtual 233, 3) := by decide +kernel
theorem dX10_alone_49 : decode cX10_alone 49 = .ok (.invokevirtual 286, 3) := by decide +kernel
theorem dX10_alone_52 : decode cX10_alone 52 = .ok (.aload_n 0, 1) := by decide +kernel
theorem dX10_alone_53 : decode cX10_alone 53 = .ok (.iload_n 1, 1) := by decide +kernel
theorem dX10_alone_54 : decode cX10_alone 54 = .ok (.aload_n 0, 1) := by decide +kernel
theorem dX10_alone_55 : decode cX10_alone 55 = .ok (.iload_n 2, 1) := by decide +kernel
theorem dX10_alone_56 : decode cX10_alone 56 = .ok (.iconst 3, 1) := by decide +kernel
theorem dX10_alone_57 : decode cX10_alone 57 = .ok (.invokevirtual 233, 3) := by decide +kernel
theorem dX10_alone_60 : decode cX10_alone 60 = .ok (.invokevirtual 286, 3) := by decide +kernel
theorem dX10_alone_63 : decode cX10_alone 63 = .ok (.invokestatic 279, 3) := by decide +kernel
theorem dX10_alone_66 : decode cX10_alone 66 = .ok (.invokestatic 279, 3) := by decide +kernel
theorem dX10_alone_69 : decode cX10_alone 69 = .ok (.istore 5, 2) := by decide +kernel
theorem dX10_alone_71 : decode cX10_alone 71 = .ok (.aload_n 0, 1) := by decide +kernel
theorem dX10_alone_72 : decode cX10_alone 72 = .ok (.iload_n 1, 1) := by decide +kernel
theorem dX10_alone_73 : decode cX10_alone 73 = .ok (.iconst 0, 1) := by decide +kernel
theorem dX10_alone_74 : decode cX10_alone 74 = .ok (.iload 5, 2) := by decide +kernel
theorem dX10_alone_76 : decode cX10_alone 76 = .ok (.aload_n 0, 1) := by decide +kernel
theorem dX10_alone_77 : decode cX10_alone 77 = .ok (.getfield 9, 3) := by decide +kernel
theorem dX10_alone_80 : decode cX10_alone 80 = .ok (.iconst 0, 1) := by decide +kernel
theorem dX10_alone_81 : decode cX10_alone 81 = .ok (.iload_n 1, 1) := by decide +kernel
theorem dX10_alone_82 : decode cX10_alone 82 = .ok (.iadd, 1) := by decide +kernel
theorem dX10_alone_83 : decode cX10_alone 83 = .ok (.iaload, 1) := by decide +kernel
theorem dX10_alone_84 : decode cX10_alone 84 = .ok (.isub, 1) := by decide +kernel
theorem dX10_alone_85 : decode cX10_alone 85 = .ok (.invokevirtual 282, 3) := by decide +kernel
theorem dX10_alone_88 : decode cX10_alone 88 = .ok (.iload_n 3, 1) := by decide +kernel
theorem dX10_alone_89 : decode cX10_alone 89 = .ok (.ifCond .eq 8, 3) := by decide +kernel
theorem dX10_alone_92 : decode cX10_alone 92 = .ok (.iload_n 3, 1) := by decide +kernel
theorem dX10_alone_93 : decode cX10_alone 93 = .ok (.iconst 1, 1) := by decide +kernel
theorem dX10_alone_94 : decode cX10_alone 94 = .ok (.if_icmp .ne 38, 3) := by decide +kernel
theorem dX10_alone_97 : decode cX10_alone 97 = .ok (.aload_n 0, 1) := by decide +kernel
theorem dX10_alone_98 : decode cX10_alone 98 = .ok (.getfield 9, 3) := by decide +kernel
theorem dX10_alone_101 : decode cX10_alone 101 = .ok (.bipush 40, 2) := by decide +kernel
theorem dX10_alone_103 : decode cX10_alone 103 = .ok (.iload_n 1, 1) := by decide +kernel
theorem dX10_alone_104 : decode cX10_alone 104 = .ok (.iadd, 1) := by decide +kernel
theorem dX10_alone_105 : decode cX10_alone 105 = .ok (.iaload, 1) := by decide +kernel
theorem dX10_alone_106 : decode cX10_alone 106 = .ok (.aload_n 0, 1) := by decide +kernel
theorem dX10_alone_107 : decode cX10_alone 107 = .ok (.iload_n 2, 1) := by decide +kernel
theorem dX10_alone_108 : decode cX10_alone 108 = .ok (.iconst 2, 1) := by decide +kernel
theorem dX10_alone_109 : decode cX10_alone 109 = .ok (.invokevirtual 233, 3) := by decide +kernel
theorem dX10_alone_112 : decode cX10_alone 112 = .ok (.iconst 1, 1) := by decide +kernel
theorem dX10_alone_113 : decode cX10_alone 113 = .ok (.iadd, 1) := by decide +kernel
theorem dX10_alone_114 : decode cX10_alone 114 = .ok (.if_icmp .eq 18, 3) := by decide +kernel
theorem dX10_alone_117 : decode cX10_alone 117 = .ok (.aload_n 0, 1) := by decide +kernel
theorem dX10_alone_118 : decode cX10_alone 118 = .ok (.iload_n 1, 1) := by decide +kernel
theorem dX10_alone_119 : decode cX10_alone 119 = .ok (.aload_n 0, 1) := by decide +kernel
theorem dX10_alone_120 : decode cX10_alone 120 = .ok (.iload_n 2, 1) := by decide +kernel
theorem dX10_alone_121 : decode cX10_alone 121 = .ok (.iconst 2, 1) := by decide +kernel
theorem dX10_alone_122 : decode cX10_alone 122 = .ok (.invokevirtual 233, 3) := by decide +kernel
theorem dX10_alone_125 : decode cX10_alone 125 = .ok (.iload 5, 2) := by decide +kernel
theorem dX10_alone_127 : decode cX10_alone 127 = .ok (.invokevirtual 289, 3) := by decide +kernel
theorem dX10_alone_130 : decode cX10_alone 130 = .ok (.istore 5, 2) := by decide +kernel
theorem dX10_alone_132 : decode cX10_alone 132 = .ok (.aload_n 0, 1) := by decide +kernel
theorem dX10_alone_133 : decode cX10_alone 133 = .ok (.iload_n 2, 1) := by decide +kernel
theorem dX10_alone_134 : decode cX10_alone 134 = .ok (.invokevirtual 257, 3) := by decide +kernel
theorem dX10_alone_137 : decode cX10_alone 137 = .ok (.iconst 1, 1) := by decide +kernel
theorem dX10_alone_138 : decode cX10_alone 138 = .ok (.if_icmp .ne 13, 3) := by decide +kernel
theorem dX10_alone_141 : decode cX10_alone 141 = .ok (.aload_n 0, 1) := by decide +kernel
theorem dX10_alone_142 : decode cX10_alone 142 = .ok (.getfield 23, 3) := by decide +kernel
theorem dX10_alone_145 : decode cX10_alone 145 = .ok (.bipush 6, 2) := by decide +kernel
theorem dX10_alone_147 : decode cX10_alone 147 = .ok (.iaload, 1) := by decide +kernel
theorem dX10_alone_148 : decode cX10_alone 148 = .ok (.goto 9, 3) := by decide +kernel
theorem dX10_alone_151 : decode cX10_alone 151 = .ok (.aload_n 0, 1) := by decide +kernel
theorem dX10_alone_152 : decode cX10_alone 152 = .ok (.getfield 23, 3) := by decide +kernel
theorem dX10_alone_155 : decode cX10_alone 155 = .ok (.iconst 5, 1) := by decide +kernel
theorem dX10_alone_156 : decode cX10_alone 156 = .ok (.iaload, 1) := by decide +kernel
theorem dX10_alone_157 : decode cX10_alone 157 = .ok (.istore 6, 2) := by decide +kernel
theorem dX10_alone_159 : decode cX10_alone 159 = .ok (.aload_n 0, 1) := by decide +kernel
theorem dX10_alone_160 : decode cX10_alone 160 = .ok (.getfield 9, 3) := by decide +kernel
theorem dX10_alone_163 : decode cX10_alone 163 = .ok (.iconst 0, 1) := by decide +kernel
theorem dX10_alone_164 : decode cX10_alone 164 = .ok (.iload_n 1, 1) := by decide +kernel
theorem dX10_alone_165 : decode cX10_alone 165 = .ok (.iadd, 1) := by decide +kernel
theorem dX10_alone_166 : decode cX10_alone 166 = .ok (.iload_n 3, 1) := by decide +kernel
theorem dX10_alone_167 : decode cX10_alone 167 = .ok (.iconst 1, 1) := by decide +kernel
theorem dX10_alone_168 : decode cX10_alone 168 = .ok (.if_icmp .ne 15, 3) := by decide +kernel
theorem dX10_alone_171 : decode cX10_alone 171 = .ok (.iload 5, 2) := by decide +kernel
theorem dX10_alone_173 : decode cX10_alone 173 = .ok (.aload_n 0, 1) := by decide +kernel
theorem dX10_alone_174 : decode cX10_alone 174 = .ok (.getfield 23, 3) := by decide +kernel
theorem dX10_alone_177 : decode cX10_alone 177 = .ok (.iconst 4, 1) := by decide +kernel
theorem dX10_alone_178 : decode cX10_alone 178 = .ok (.iaload, 1) := by decide +kernel
theorem dX10_alone_179 : decode cX10_alone 179 = .ok (.iadd, 1) := by decide +kernel
theorem dX10_alone_180 : decode cX10_alone 180 = .ok (.goto 7, 3) := by decide +kernel
theorem dX10_alone_183 : decode cX10_alone 183 = .ok (.iload 5, 2) := by decide +kernel
theorem dX10_alone_185 : decode cX10_alone 185 = .ok (.iconst 1, 1) := by decide +kernel
theorem dX10_alone_186 : decode cX10_alone 186 = .ok (.iadd, 1) := by decide +kernel
theorem dX10_alone_187 : decode cX10_alone 187 = .ok (.iastore, 1) := by decide +kernel
theorem dX10_alone_188 : decode cX10_alone 188 = .ok (.iload_n 3, 1) := by decide +kernel
theorem dX10_alone_189 : decode cX10_alone 189 = .ok (.iconst 1, 1) := by decide +kernel
theorem dX10_alone_190 : decode cX10_alone 190 = .ok (.if_icmp .ne 4, 3) := by decide +kernel
theorem dX10_alone_193 : decode cX10_alone 193 = .ok (.return_, 1) := by decide +kernel
theorem dX10_alone_194 : decode cX10_alone 194 = .ok (.iload_n 3, 1) := by decide +kernel
theorem dX10_alone_195 : decode cX10_alone 195 = .ok (.iconst 2, 1) := by decide +kernel
theorem dX10_alone_196 : decode cX10_alone 196 = .ok (.if_icmp .ne 7, 3) := by decide +kernel
theorem dX10_alone_199 : decode cX10_alone 199 = .ok (.iconst 1, 1) := by decide +kernel
theorem dX10_alone_200 : decode cX10_alone 200 = .ok (.goto 39, 3) := by decide +kernel
theorem dX10_alone_203 : decode cX10_alone 203 = .ok (.iload_n 3, 1) := by decide +kernel
theorem dX10_alone_204 : decode cX10_alone 204 = .ok (.iconst 3, 1) := by decide +kernel
theorem dX10_alone_205 : decode cX10_alone 205 = .ok (.if_icmp .ne 8, 3) := by decide +kernel
theorem dX10_alone_208 : decode cX10_alone 208 = .ok (.iload 6, 2) := by decide +kernel
theorem dX10_alone_210 : decode cX10_alone 210 = .ok (.goto 29, 3) := by decide +kernel
theorem dX10_alone_213 : decode cX10_alone 213 = .ok (.iload_n 3, 1) := by decide +kernel
theorem dX10_alone_214 : decode cX10_alone 214 = .ok (.iconst 5, 1) := by decide +kernel
theorem dX10_alone_215 : decode cX10_alone 215 = .ok (.if_icmp .ne 18, 3) := by decide +kernel
theorem dX10_alone_218 : decode cX10_alone 218 = .ok (.aload_n 0, 1) := by decide +kernel
theorem dX10_alone_219 : decode cX10_alone 219 = .ok (.getfield 23, 3) := by decide +kernel
theorem dX10_alone_222 : decode cX10_alone 222 = .ok (.iconst 2, 1) := by decide +kernel
theorem dX10_alone_223 : decode cX10_alone 223 = .ok (.iaload, 1) := by decide +kernel
theorem dX10_alone_224 : decode cX10_alone 224 = .ok (.invokestatic 292, 3) := by decide +kernel
theorem dX10_alone_227 : decode cX10_alone 227 = .ok (.iload 6, 2) := by decide +kernel
theorem dX10_alone_229 : decode cX10_alone 229 = .ok (.imul, 1) := by decide +kernel
theorem dX10_alone_230 : decode cX10_alone 230 = .ok (.goto 9, 3) := by decide +kernel
theorem dX10_alone_233 : decode cX10_alone 233 = .ok (.aload_n 0, 1) := by decide +kernel
theorem dX10_alone_234 : decode cX10_alone 234 = .ok (.getfield 23, 3) := by decide +kernel
theorem dX10_alone_237 : decode cX10_alone 237 = .ok (.iconst 4, 1) := by decide +kernel
theorem dX10_alone_238 : decode cX10_alone 238 = .ok (.iaload, 1) := by decide +kernel
theorem dX10_alone_239 : decode cX10_alone 239 = .ok (.istore 7, 2) := by decide +kernel
theorem dX10_alone_241 : decode cX10_alone 241 = .ok (.aload_n 0, 1) := by decide +kernel
theorem dX10_alone_242 : decode cX10_alone 242 = .ok (.getfield 9, 3) := by decide +kernel
theorem dX10_alone_245 : decode cX10_alone 245 = .ok (.bipush 8, 2) := by decide +kernel
theorem dX10_alone_247 : decode cX10_alone 247 = .ok (.iconst 4, 1) := by decide +kernel
theorem dX10_alone_248 : decode cX10_alone 248 = .ok (.iload_n 1, 1) := by decide +kernel
theorem dX10_alone_249 : decode cX10_alone 249 = .ok (.imul, 1) := by decide +kernel
theorem dX10_alone_250 : decode cX10_alone 250 = .ok (.iadd, 1) := by decide +kernel
theorem dX10_alone_251 : decode cX10_alone 251 = .ok (.iload 4, 2) := by decide +kernel
theorem dX10_alone_253 : decode cX10_alone 253 = .ok (.iadd, 1) := by decide +kernel
theorem dX10_alone_254 : decode cX10_alone 254 = .ok (.iload 5, 2) := by decide +kernel
theorem dX10_alone_256 : decode cX10_alone 256 = .ok (.iload 7, 2) := by decide +kernel
theorem dX10_alone_258 : decode cX10_alone 258 = .ok (.iadd, 1) := by decide +kernel
theorem dX10_alone_259 : decode cX10_alone 259 = .ok (.iastore, 1) := by decide +kernel
theorem dX10_alone_260 : decode cX10_alone 260 = .ok (.return_, 1) := by decide +kernel
theorem dX10_allAtOnce_0 : decode cX10_allAtOnce 0 = .ok (.aload_n 0, 1) := by decide +kernel
theorem dX10_allAtOnce_1 : decode cX10_allAtOnce 1 = .ok (.iload_n 2, 1) := by decide +kernel
theorem dX10_allAtOnce_2 : decode cX10_allAtOnce 2 = .ok (.invokevirtual 254, 3) := by decide +kernel
theorem dX10_allAtOnce_5 : decode cX10_allAtOnce 5 = .ok (.istore_n 3, 1) := by decide +kernel
theorem dX10_allAtOnce_6 : decode cX10_allAtOnce 6 = .ok (.aload_n 0, 1) := by decide +kernel
theorem dX10_allAtOnce_7 : decode cX10_allAtOnce 7 = .ok (.iload_n 2, 1) := by decide +kernel
theorem dX10_allAtOnce_8 : decode cX10_allAtOnce 8 = .ok (.iconst 1, 1) := by decide +kernel
theorem dX10_allAtOnce_9 : decode cX10_allAtOnce 9 = .ok (.invokevirtual 233, 3) := by decide +kernel
theorem dX10_allAtOnce_12 : decode cX10_allAtOnce 12 = .ok (.istore 4, 2) := by decide +kernel
theorem dX10_allAtOnce_14 : decode cX10_allAtOnce 14 = .ok (.iconst 0, 1) := by decide +kernel
theorem dX10_allAtOnce_15 : decode cX10_allAtOnce 15 = .ok (.istore 5, 2) := by decide +kernel
theorem dX10_allAtOnce_17 : decode cX10_allAtOnce 17 = .ok (.iconst 0, 1) := by decide +kernel
theorem dX10_allAtOnce_18 : decode cX10_allAtOnce 18 = .ok (.istore 6, 2) := by decide +kernel
theorem dX10_allAtOnce_20 : decode cX10_allAtOnce 20 = .ok (.iload 6, 2) := by decide +kernel
theorem dX10_allAtOnce_22 : decode cX10_allAtOnce 22 = .ok (.aload_n 0, 1) := by decide +kernel
theorem dX10_allAtOnce_23 : decode cX10_allAtOnce 23 = .ok (.getfield 23, 3) := by decide +kernel
theorem dX10_allAtOnce_26 : decode cX10_allAtOnce 26 = .ok (.iconst 0, 1) := by decide +kernel
theorem dX10_allAtOnce_27 : decode cX10_allAtOnce 27 = .ok (.iaload, 1) := by decide +kernel
theorem dX10_allAtOnce_28 : decode cX10_allAtOnce 28 = .ok (.if_icmp .ge 80, 3) := by decide +kernel
theorem dX10_allAtOnce_31 : decode cX10_allAtOnce 31 = .ok (.iload_n 1, 1) := by decide +kernel
theorem dX10_allAtOnce_32 : decode cX10_allAtOnce 32 = .ok (.iload 6, 2) := by decide +kernel
theorem dX10_allAtOnce_34 : decode cX10_allAtOnce 34 = .ok (.invokestatic 169, 3) := by decide +kernel
theorem dX10_allAtOnce_37 : decode cX10_allAtOnce 37 = .ok (.ifCond .ne 6, 3) := by decide +kernel
theorem dX10_allAtOnce_40 : decode cX10_allAtOnce 40 = .ok (.goto 62, 3) := by decide +kernel
theorem dX10_allAtOnce_43 : decode cX10_allAtOnce 43 = .ok (.iload 5, 2) := by decide +kernel
theorem dX10_allAtOnce_45 : decode cX10_allAtOnce 45 = .ok (.aload_n 0, 1) := by decide +kernel
theorem dX10_allAtOnce_46 : decode cX10_allAtOnce 46 = .ok (.getfield 9, 3) := by decide +kernel
theorem dX10_allAtOnce_49 : decode cX10_allAtOnce 49 = .ok (.iconst 0, 1) := by decide +kernel
theorem dX10_allAtOnce_50 : decode cX10_allAtOnce 50 = .ok (.iload 6, 2) := by decide +kernel
theorem dX10_allAtOnce_52 : decode cX10_allAtOnce 52 = .ok (.iadd, 1) := by decide +kernel
theorem dX10_allAtOnce_53 : decode cX10_allAtOnce 53 = .ok (.iaload, 1) := by decide +kernel
theorem dX10_allAtOnce_54 : decode cX10_allAtOnce 54 = .ok (.invokestatic 279, 3) := by decide +kernel
theorem dX10_allAtOnce_57 : decode cX10_allAtOnce 57 = .ok (.istore 5, 2) := by decide +kernel
theorem dX10_allAtOnce_59 : decode cX10_allAtOnce 59 = .ok (.iconst 0, 1) := by decide +kernel
theorem dX10_allAtOnce_60 : decode cX10_allAtOnce 60 = .ok (.istore 7, 2) := by decide +kernel
theorem dX10_allAtOnce_62 : decode cX10_allAtOnce 62 = .ok (.iload 7, 2) := by decide +kernel
theorem dX10_allAtOnce_64 : decode cX10_allAtOnce 64 = .ok (.iconst 4, 1) := by decide +kernel
theorem dX10_allAtOnce_65 : decode cX10_allAtOnce 65 = .ok (.if_icmp .ge 37, 3) := by decide +kernel
theorem dX10_allAtOnce_68 : decode cX10_allAtOnce 68 = .ok (.iload_n 3, 1) := by decide +kernel
theorem dX10_allAtOnce_69 : decode cX10_allAtOnce 69 = .ok (.bipush 7, 2) := by decide +kernel
theorem dX10_allAtOnce_71 : decode cX10_allAtOnce 71 = .ok (.if_icmp .eq 10, 3) := by decide +kernel
theorem dX10_allAtOnce_74 : decode cX10_allAtOnce 74 = .ok (.iload 7, 2) := by decide +kernel
theorem dX10_allAtOnce_76 : decode cX10_allAtOnce 76 = .ok (.iload 4, 2) := by decide +kernel
theorem dX10_allAtOnce_78 : decode cX10_allAtOnce 78 = .ok (.if_icmp .ne 18, 3) := by decide +kernel
theorem dX10_allAtOnce_81 : decode cX10_allAtOnce 81 = .ok (.iload 5, 2) := by decide +kernel
theorem dX10_allAtOnce_83 : decode cX10_allAtOnce 83 = .ok (.aload_n 0, 1) := by decide +kernel
theorem dX10_allAtOnce_84 : decode cX10_allAtOnce 84 = .ok (.iload 6, 2) := by decide +kernel
theorem dX10_allAtOnce_86 : decode cX10_allAtOnce 86 = .ok (.iload 7, 2) := by decide +kernel
theorem dX10_allAtOnce_88 : decode cX10_allAtOnce 88 = .ok (.invokevirtual 286, 3) := by decide +kernel
theorem dX10_allAtOnce_91 : decode cX10_allAtOnce 91 = .ok (.invokestatic 279, 3) := by decide +kernel
theorem dX10_allAtOnce_94 : decode cX10_allAtOnce 94 = .ok (.istore 5, 2) := by decide +kernel
theorem dX10_allAtOnce_96 : decode cX10_allAtOnce 96 = .ok (.iinc 7 1, 3) := by decide +kernel
theorem dX10_allAtOnce_99 : decode cX10_allAtOnce 99 = .ok (.goto (-37), 3) := by decide +kernel
theorem dX10_allAtOnce_102 : decode cX10_allAtOnce 102 = .ok (.iinc 6 1, 3) := by decide +kernel
theorem dX10_allAtOnce_105 : decode cX10_allAtOnce 105 = .ok (.goto (-85), 3) := by decide +kernel
theorem dX10_allAtOnce_108 : decode cX10_allAtOnce 108 = .ok (.iload_n 3, 1) := by decide +kernel
theorem dX10_allAtOnce_109 : decode cX10_allAtOnce 109 = .ok (.bipush 7, 2) := by decide +kernel
theorem dX10_allAtOnce_111 : decode cX10_allAtOnce 111 = .ok (.if_icmp .ne 8, 3) := by decide +kernel
theorem dX10_allAtOnce_114 : decode cX10_allAtOnce 114 = .ok (.iload 5, 2) := by decide +kernel
theorem dX10_allAtOnce_116 : decode cX10_allAtOnce 116 = .ok (.goto 39, 3) := by decide +kernel
theorem dX10_allAtOnce_119 : decode cX10_allAtOnce 119 = .ok (.iload_n 3, 1) := by decide +kernel
theorem dX10_allAtOnce_120 : decode cX10_allAtOnce 120 = .ok (.iconst 4, 1) := by decide +kernel
theorem dX10_allAtOnce_121 : decode cX10_allAtOnce 121 = .ok (.if_icmp .ne 24, 3) := by decide +kernel
theorem dX10_allAtOnce_124 : decode cX10_allAtOnce 124 = .ok (.iload 5, 2) := by decide +kernel
theorem dX10_allAtOnce_126 : decode cX10_allAtOnce 126 = .ok (.iload_n 1, 1) := by decide +kernel
